abbrev rm_X12_solved : Room := { frames := 6, cells := 0, slots := 0, locals := 142 }
def F_X12_solved_J106 (N : Nat)  (v1 : Int) (v3 : Int) (v5 : Int) (σ : Sto) : Option (Int × Sto) :=
  if v1 = 1 then (some (v3, σ)) else (some (v5, σ))
def F_X12_solved_J100 (N : Nat) (nx49 : (Int × Int × Int) → Option (Int × Sto)) (v1 : Int) (v3 : Int) (v5 : Int) (v6 : Int) (σ : Sto) : Option (Int × Sto) :=
  nx49 (v3, v5, (ja v6 1))
def F_X12_solved_B49 (N : Nat) (nx49 : (Int × Int × Int) → Option (Int × Sto)) (v1 : Int) (v3 : Int) (v5 : Int) (v6 : Int) (σ : Sto) : Option (Int × Sto) :=
  if 144 ≤ v6 then (F_X12_solved_J106 N  v1 v3 v5 σ) else (inb v6 144 (if (σ.1 107 v6) = 0 then (F_X12_solved_J100 N nx49 v1 v3 v5 v6 σ) else ((F_X12_priceOf N (jdiv v6 12) (jrem v6 12) σ).bind (fun q10 => F_X12_solved_J100 N nx49 v1 (jla v3 (jlm (σ.1 107 v6) q10)) (ja v5 1) v6 σ))))
def F_X12_solved (N : Nat) (v1 : Int) (σ : Sto) : Option (Int × Sto) :=
  (F_X12_isIn N v1 0 3 (upI σ 94 2 0)).bind (fun q1 => if q1 = 0 then (some ((-1), (upI σ 94 2 0))) else ((F_X12_solves N (upI σ 94 2 0)).bind (fun q3 => if v1 = 0 then (some (q3.1, q3.2)) else (if v1 = 2 then (some ((q3.2.1 94 37), q3.2)) else (loopK (fun q nx49 => F_X12_solved_B49 N  nx49 v1 q.1 q.2.1 q.2.2 q3.2) N (0, 0, 0))))))
set_option maxHeartbeats 4000000 in
set_option maxRecDepth 100000 in
theorem c_X12_solved (l : Launch) (g : Geo) (N : Nat) (v1 : Int) (σ : Sto) (res : Int × Sto) (h1 : inR v1) (ok : OK σ) (hF : F_X12_solved N v1 σ = some res) : MtL l g yX12_solved cX12_solved 7 (some .long) rm_X12_solved [vr g 94, vi v1] σ res.1 res.2 := by
  intro sz
  refine Met.ofAt (own := RX12) (QQ := fun z => QL g z res.1 res.2) (by decide +kernel) (Nat.le_of_ble_eq_true rfl) rfl ?_
  intro p e s m args below meth c C hr hlk
  show At p l e rm_X12_solved s m args below meth c 0 0 g 7 (MQ below (QL g s.heap.size res.1 res.2) args s 0 0 (AA g s.heap.size)) 0 [(0, vr g 94), (1, vi v1)] [] σ
  unfold F_X12_solved at hF
  refine at_aload_n (pc := 0) C 0 dX12_solved_0 rfl rfl ?_
  refine at_iconst (pc := 1) C dX12_solved_1 ?_
  refine at_puti (pc := 2) (jz := 2) C fu_12_81 kd94 rfl (Nat.le_of_ble_eq_true rfl) rfl rfl dX12_solved_2 ?_
  refine at_iload_n (pc := 5) C 1 dX12_solved_5 rfl rfl ?_
  refine at_iconst (pc := 6) C dX12_solved_6 ?_
  refine at_iconst (pc := 7) C dX12_solved_7 ?_
  obtain ⟨q1, eq1, hF⟩ := bind_some' hF
  refine at_callS (pc := 8) C (c_X12_isIn l g N v1 0 3 (upI σ 94 2 0) q1 h1 (isB.r (Or.inl rfl)) (show inR 3 from ⟨by decide, by decide⟩) (OK_up (k := 94) (j := 2) ok (isB.r (Or.inl rfl))) eq1) ks_X12_isIn w1525 rfl rfl (Nat.le_of_ble_eq_true rfl) ⟨rfl, rfl, (Nat.le_of_ble_eq_true rfl), (Nat.le_of_ble_eq_true rfl)⟩ dX12_solved_8 (fun tq1 okq1 => ?_)
  refine at_if_ne (pc := 11) (tgt := 18) C (isB.r tq1) dX12_solved_11 rfl (fun c2 => ?_) (fun c2 => ?_)
  · have hF := (if_neg c2).symm.trans hF
    refine at_aload_n (pc := 18) C 0 dX12_solved_18 rfl rfl ?_
    obtain ⟨q3, eq3, hF⟩ := bind_some' hF
    refine at_callV (pc := 19) (ci := 12) C (c_X12_solves l g N  (upI σ 94 2 0) q3  (OK_up (k := 94) (j := 2) ok (isB.r (Or.inl rfl))) eq3) kv_X12_solves w1683 kd94 rfl rfl rfl rfl (Nat.le_of_ble_eq_true rfl) ⟨rfl, rfl, (Nat.le_of_ble_eq_true rfl), (Nat.le_of_ble_eq_true rfl)⟩ dX12_solved_19 (fun tq3 okq3 => ?_)
    refine at_istore_n (pc := 22) (lv' := [(2, vi q3.1), (0, vr g 94), (1, vi v1)]) C dX12_solved_22 rfl (Nat.le_of_ble_eq_true rfl) rfl ?_
    refine at_iload_n (pc := 23) C 2 dX12_solved_23 rfl rfl ?_
    refine at_if_ne (pc := 24) (tgt := 30) C h1 dX12_solved_24 rfl (fun c4 => ?_) (fun c4 => ?_)
    · have hF := (if_neg c4).symm.trans hF
      refine at_iload_n (pc := 30) C 2 dX12_solved_30 rfl rfl ?_
      refine at_iconst (pc := 31) C dX12_solved_31 ?_
      refine at_icmp_ne (pc := 32) (tgt := 41) C h1 (show inR 2 from ⟨by decide, by decide⟩) dX12_solved_32 rfl (fun c5 => ?_) (fun c5 => ?_)
      · have hF := (if_neg c5).symm.trans hF
        refine at_lconst0 (pc := 41) C dX12_solved_41 ?_
        refine at_lstore_n (pc := 42) (lv' := [(3, vl 0), (2, vi q3.1), (0, vr g 94), (1, vi v1)]) C dX12_solved_42 rfl (Nat.le_of_ble_eq_true rfl) rfl ?_
        refine at_iconst (pc := 43) C dX12_solved_43 ?_
        refine at_istore (pc := 44) (lv' := [(5, vi 0), (3, vl 0), (2, vi q3.1), (0, vr g 94), (1, vi v1)]) C dX12_solved_44 (Nat.le_of_ble_eq_true rfl) rfl ?_
        refine at_iconst (pc := 46) C dX12_solved_46 ?_
        refine at_istore (pc := 47) (lv' := [(6, vi 0), (5, vi 0), (3, vl 0), (2, vi q3.1), (0, vr g 94), (1, vi v1)]) C dX12_solved_47 (Nat.le_of_ble_eq_true rfl) rfl ?_
        have L49 : ∀ (v1 : Int) (v3 : Int) (v5 : Int) (v6 : Int) (σ : Sto), inR v1 → inL v3 → inR v5 → inR v6 → OK σ → loopK (fun q nx49 => F_X12_solved_B49 N  nx49 v1 q.1 q.2.1 q.2.2 σ) N (v3, v5, v6) = some res → At p l e rm_X12_solved s m args below meth c 0 0 g 7 (MQ below (QL g s.heap.size res.1 res.2) args s 0 0 (AA g s.heap.size)) 49 [(0, vr g 94), (1, vi v1), (3, vl v3), (5, vi v5), (6, vi v6)] [] σ := by
          intro v1 v3 v5 v6 σ h1 h3 h5 h6 ok hF
          refine loopK_ind (res := res) (P := fun (q : Int × Int × Int) => inL q.1 → inR q.2.1 → inR q.2.2 → At p l e rm_X12_solved s m args below meth c 0 0 g 7 (MQ below (QL g s.heap.size res.1 res.2) args s 0 0 (AA g s.heap.size)) 49 [(0, vr g 94), (1, vi v1), (3, vl q.1), (5, vi q.2.1), (6, vi q.2.2)] [] σ) ?_ N _ hF h3 h5 h6
          intro nx49 q ih49 hF
          obtain ⟨v3, v5, v6⟩ := q
          intro h3 h5 h6
          have hF : F_X12_solved_B49 N  nx49 v1 v3 v5 v6 σ = some res := hF
          unfold F_X12_solved_B49 at hF
          have J106 : ∀ (v1 : Int) (v3 : Int) (v5 : Int) (σ : Sto), inR v1 → inL v3 → inR v5 → OK σ → F_X12_solved_J106 N  v1 v3 v5 σ = some res → At p l e rm_X12_solved s m args below meth c 0 0 g 7 (MQ below (QL g s.heap.size res.1 res.2) args s 0 0 (AA g s.heap.size)) 106 [(1, vi v1), (3, vl v3), (5, vi v5)] [] σ := by
            intro v1 v3 v5 σ h1 h3 h5 ok hF
            unfold F_X12_solved_J106 at hF
            refine at_iload_n (pc := 106) C 0 dX12_solved_106 rfl rfl ?_
            refine at_iconst (pc := 107) C dX12_solved_107 ?_
            refine at_icmp_ne (pc := 108) (tgt := 115) C h1 (isB.r (Or.inr rfl)) dX12_solved_108 rfl (fun c6 => ?_) (fun c6 => ?_)
            · have hF := (if_neg c6).symm.trans hF
              refine at_iload (pc := 115) C 2 dX12_solved_115 rfl ?_
              refine at_i2l (pc := 117) C h5 dX12_solved_117 ?_
              obtain rfl := Option.some.inj hF
              exact at_lret (pc := 118) C hr hlk (inR.lo h5) ok dX12_solved_118
            · have hF := (if_pos c6).symm.trans hF
              refine at_lload_n (pc := 111) C 1 dX12_solved_111 rfl rfl ?_
              refine at_goto (pc := 112) (tgt := 118) C dX12_solved_112 rfl ?_
              obtain rfl := Option.some.inj hF
              exact at_lret (pc := 118) C hr hlk h3 ok dX12_solved_118
          refine at_iload (pc := 49) C 4 dX12_solved_49 rfl ?_
          refine at_sipush (pc := 51) C dX12_solved_51 (by decide) ?_
          refine at_icmp_ge (pc := 54) (tgt := 106) C h6 (show inR 144 from ⟨by decide, by decide⟩) dX12_solved_54 rfl (fun c7 => ?_) (fun c7 => ?_)
          · have hF := (if_pos c7).symm.trans hF
            refine at_sub (lv' := [(1, vi v1), (3, vl v3), (5, vi v5)]) [1, 2, 3] rfl ?_
            exact J106 v1 v3 v5 σ h1 h3 h5 ok hF
          · have hF := (if_neg c7).symm.trans hF
            have J100 : ∀ (v3 : Int) (v5 : Int) (v6 : Int), inL v3 → inR v5 → inR v6 → F_X12_solved_J100 N nx49 v1 v3 v5 v6 σ = some res → At p l e rm_X12_solved s m args below meth c 0 0 g 7 (MQ below (QL g s.heap.size res.1 res.2) args s 0 0 (AA g s.heap.size)) 100 [(0, vr g 94), (1, vi v1), (3, vl v3), (5, vi v5), (6, vi v6)] [] σ := by
              intro v3 v5 v6 h3 h5 h6 hF
              unfold F_X12_solved_J100 at hF
              refine at_iinc (pc := 100) (lv' := [(6, vi (ja v6 1)), (0, vr g 94), (1, vi v1), (3, vl v3), (5, vi v5)]) C 4 dX12_solved_100 rfl (Nat.le_of_ble_eq_true rfl) rfl ?_
              refine at_goto (pc := 103) (tgt := 49) C dX12_solved_103 rfl ?_
              refine at_sub (lv' := [(0, vr g 94), (1, vi v1), (3, vl v3), (5, vi v5), (6, vi (ja v6 1))]) [1, 2, 3, 4, 0] rfl ?_
              exact ih49 _ hF h3 h5 (ja_R v6 1)
            refine at_aload_n (pc := 57) C 0 dX12_solved_57 rfl rfl ?_
            refine at_getr (pc := 58) (k' := 107) C 13 fw_12_54 kd94 rfl (Nat.le_of_ble_eq_true rfl) rfl rfl dX12_solved_58 ?_
            refine at_iload (pc := 61) C 4 dX12_solved_61 rfl ?_
            obtain ⟨b8, hF⟩ := inb_some hF
            refine at_iaload (pc := 63) C kd107 b8 dX12_solved_63 ?_
            refine at_if_ne (pc := 64) (tgt := 70) C (ok 107 v6) dX12_solved_64 rfl (fun c9 => ?_) (fun c9 => ?_)
            · have hF := (if_neg c9).symm.trans hF
              refine at_lload_n (pc := 70) C 2 dX12_solved_70 rfl rfl ?_
              refine at_aload_n (pc := 71) C 0 dX12_solved_71 rfl rfl ?_
              refine at_getr (pc := 72) (k' := 107) C 13 fw_12_54 kd94 rfl (Nat.le_of_ble_eq_true rfl) rfl rfl dX12_solved_72 ?_
              refine at_iload (pc := 75) C 4 dX12_solved_75 rfl ?_
              refine at_iaload (pc := 77) C kd107 b8 dX12_solved_77 ?_
              refine at_i2l (pc := 78) C (ok 107 v6) dX12_solved_78 ?_
              refine at_aload_n (pc := 79) C 0 dX12_solved_79 rfl rfl ?_
              refine at_iload (pc := 80) C 4 dX12_solved_80 rfl ?_
              refine at_bipush (pc := 82) C dX12_solved_82 (by decide) ?_
              refine at_idiv (pc := 84) C dX12_solved_84 (show inR 12 from ⟨by decide, by decide⟩) (by decide) ?_
              refine at_iload (pc := 85) C 4 dX12_solved_85 rfl ?_
              refine at_bipush (pc := 87) C dX12_solved_87 (by decide) ?_
              refine at_irem (pc := 89) C dX12_solved_89 (show inR 12 from ⟨by decide, by decide⟩) (by decide) ?_
              obtain ⟨q10, eq10, hF⟩ := bind_some' hF
              refine at_callV (pc := 90) (ci := 12) C (c_X12_priceOf l g N (jdiv v6 12) (jrem v6 12) σ q10 (jdiv_R v6 12) (jrem_R v6 12) ok eq10) kv_X12_priceOf w1699 kd94 rfl rfl rfl rfl (Nat.le_of_ble_eq_true rfl) ⟨rfl, rfl, (Nat.le_of_ble_eq_true rfl), (Nat.le_of_ble_eq_true rfl)⟩ dX12_solved_90 (fun tq10 okq10 => ?_)
              refine at_i2l (pc := 93) C tq10 dX12_solved_93 ?_
              refine at_lmul (pc := 94) C dX12_solved_94 ?_
              refine at_ladd (pc := 95) C dX12_solved_95 ?_
              refine at_lstore_n (pc := 96) (lv' := [(3, vl (jla v3 (jlm (σ.1 107 v6) q10))), (0, vr g 94), (1, vi v1), (5, vi v5), (6, vi v6)]) C dX12_solved_96 rfl (Nat.le_of_ble_eq_true rfl) rfl ?_
              refine at_iinc (pc := 97) (lv' := [(5, vi (ja v5 1)), (3, vl (jla v3 (jlm (σ.1 107 v6) q10))), (0, vr g 94), (1, vi v1), (6, vi v6)]) C 3 dX12_solved_97 rfl (Nat.le_of_ble_eq_true rfl) rfl ?_
              refine at_sub (lv' := [(0, vr g 94), (1, vi v1), (3, vl (jla v3 (jlm (σ.1 107 v6) q10))), (5, vi (ja v5 1)), (6, vi v6)]) [2, 3, 1, 0, 4] rfl ?_
              exact J100 (jla v3 (jlm (σ.1 107 v6) q10)) (ja v5 1) v6 (jla_L v3 (jlm (σ.1 107 v6) q10)) (ja_R v5 1) h6 hF
            · have hF := (if_pos c9).symm.trans hF
              refine at_goto (pc := 67) (tgt := 100) C dX12_solved_67 rfl ?_
              exact J100 v3 v5 v6 h3 h5 h6 hF
        refine at_sub (lv' := [(0, vr g 94), (1, vi v1), (3, vl 0), (5, vi 0), (6, vi 0)]) [4, 5, 2, 1, 0] rfl ?_
        exact L49 v1 0 0 0 q3.2 h1 (show inL 0 from ⟨by decide, by decide⟩) (isB.r (Or.inl rfl)) (isB.r (Or.inl rfl)) okq3 hF
      · have hF := (if_pos c5).symm.trans hF
        refine at_aload_n (pc := 35) C 1 dX12_solved_35 rfl rfl ?_
        refine at_geti (pc := 36) (jz := 37) C fw_12_289 kd94 rfl (Nat.le_of_ble_eq_true rfl) rfl rfl dX12_solved_36 ?_
        refine at_i2l (pc := 39) C (okq3 94 37) dX12_solved_39 ?_
        obtain rfl := Option.some.inj hF
        exact at_lret (pc := 40) C hr hlk (inR.lo (okq3 94 37)) okq3 dX12_solved_40
    · have hF := (if_pos c4).symm.trans hF
      refine at_iload_n (pc := 27) C 0 dX12_solved_27 rfl rfl ?_
      refine at_i2l (pc := 28) C tq3 dX12_solved_28 ?_
      obtain rfl := Option.some.inj hF
      exact at_lret (pc := 29) C hr hlk (inR.lo tq3) okq3 dX12_solved_29
  · have hF := (if_pos c2).symm.trans hF
    refine at_ldc2l (pc := 14) (n := (-1)) C dX12_solved_14 w1819 ?_
    obtain rfl := Option.some.inj hF
    exact at_lret (pc := 17) C hr hlk (show inL (-1) from ⟨by decide, by decide⟩) (OK_up (k := 94) (j := 2) ok (isB.r (Or.inl rfl))) dX12_solved_17
abbrev rm_X12_reached : Room := { frames := 6, cells := 0, slots := 0, locals := 142 }
def F_X12_reached_J43 (N : Nat) (nx18 : (Int × Int) → Option (Int × Sto)) (v2 : Int) (t0 : Int) (t1 : Int) (σ : Sto) : Option (Int × Sto) :=
  nx18 ((jor t0 t1), (ja v2 1))
def F_X12_reached_B18 (N : Nat) (nx18 : (Int × Int) → Option (Int × Sto))  (v1 : Int) (v2 : Int) (σ : Sto) : Option (Int × Sto) :=
  if (σ.1 94 14) ≤ v2 then (some (v1, σ)) else (inb v2 12 (if (σ.1 109 v2) ≤ 0 then (F_X12_reached_J43 N nx18 v2 v1 0 σ) else (F_X12_reached_J43 N nx18 v2 v1 (jshl 1 v2) σ)))
def F_X12_reached (N : Nat)  (σ : Sto) : Option (Int × Sto) :=
  (F_X12_solves N (upI σ 94 2 0)).bind (fun q1 => (F_X12_laysRoutes N q1.2).bind (fun q2 => loopK (fun q nx18 => F_X12_reached_B18 N  nx18  q.1 q.2 q2) N (0, 0)))
set_option maxHeartbeats 4000000 in
set_option maxRecDepth 100000 in
theorem c_X12_reached (l : Launch) (g : Geo) (N : Nat)  (σ : Sto) (res : Int × Sto)  (ok : OK σ) (hF : F_X12_reached N  σ = some res) : MtI l g yX12_reached cX12_reached 3 (some .int) rm_X12_reached [vr g 94] σ res.1 res.2 inR := by
  intro sz
  refine Met.ofAt (own := RX12) (QQ := fun z => QI g z res.1 res.2 inR) (by decide +kernel) (Nat.le_of_ble_eq_true rfl) rfl ?_
  intro p e s m args below meth c C hr hlk
  show At p l e rm_X12_reached s m args below meth c 0 0 g 3 (MQ below (QI g s.heap.size res.1 res.2 inR) args s 0 0 (AA g s.heap.size)) 0 [(0, vr g 94)] [] σ
  unfold F_X12_reached at hF
  refine at_aload_n (pc := 0) C 0 dX12_reached_0 rfl rfl ?_
  refine at_iconst (pc := 1) C dX12_reached_1 ?_
  refine at_puti (pc := 2) (jz := 2) C fu_12_81 kd94 rfl (Nat.le_of_ble_eq_true rfl) rfl rfl dX12_reached_2 ?_
  refine at_aload_n (pc := 5) C 0 dX12_reached_5 rfl rfl ?_
  obtain ⟨q1, eq1, hF⟩ := bind_some' hF
  refine at_callV (pc := 6) (ci := 12) C (c_X12_solves l g N  (upI σ 94 2 0) q1  (OK_up (k := 94) (j := 2) ok (isB.r (Or.inl rfl))) eq1) kv_X12_solves w1683 kd94 rfl rfl rfl rfl (Nat.le_of_ble_eq_true rfl) ⟨rfl, rfl, (Nat.le_of_ble_eq_true rfl), (Nat.le_of_ble_eq_true rfl)⟩ dX12_reached_6 (fun tq1 okq1 => ?_)
  refine at_pop (pc := 9) C dX12_reached_9 rfl ?_
  refine at_aload_n (pc := 10) C 0 dX12_reached_10 rfl rfl ?_
  obtain ⟨q2, eq2, hF⟩ := bind_some' hF
  refine at_callVv (pc := 11) (ci := 12) C (c_X12_laysRoutes l g N  q1.2 q2  okq1 eq2) kv_X12_laysRoutes w1695 kd94 rfl rfl rfl rfl (Nat.le_of_ble_eq_true rfl) ⟨rfl, rfl, (Nat.le_of_ble_eq_true rfl), (Nat.le_of_ble_eq_true rfl)⟩ dX12_reached_11 (fun okq2 => ?_)
  refine at_iconst (pc := 14) C dX12_reached_14 ?_
  refine at_istore_n (pc := 15) (lv' := [(1, vi 0), (0, vr g 94)]) C dX12_reached_15 rfl (Nat.le_of_ble_eq_true rfl) rfl ?_
  refine at_iconst (pc := 16) C dX12_reached_16 ?_
  refine at_istore_n (pc := 17) (lv' := [(2, vi 0), (1, vi 0), (0, vr g 94)]) C dX12_reached_17 rfl (Nat.le_of_ble_eq_true rfl) rfl ?_
  have L18 : ∀ (v1 : Int) (v2 : Int) (σ : Sto), inR v1 → inR v2 → OK σ → loopK (fun q nx18 => F_X12_reached_B18 N  nx18  q.1 q.2 σ) N (v1, v2) = some res → At p l e rm_X12_reached s m args below meth c 0 0 g 3 (MQ below (QI g s.heap.size res.1 res.2 inR) args s 0 0 (AA g s.heap.size)) 18 [(0, vr g 94), (1, vi v1), (2, vi v2)] [] σ := by
    intro v1 v2 σ h1 h2 ok hF
    refine loopK_ind (res := res) (P := fun (q : Int × Int) => inR q.1 → inR q.2 → At p l e rm_X12_reached s m args below meth c 0 0 g 3 (MQ below (QI g s.heap.size res.1 res.2 inR) args s 0 0 (AA g s.heap.size)) 18 [(0, vr g 94), (1, vi q.1), (2, vi q.2)] [] σ) ?_ N _ hF h1 h2
    intro nx18 q ih18 hF
    obtain ⟨v1, v2⟩ := q
    intro h1 h2
    have hF : F_X12_reached_B18 N  nx18  v1 v2 σ = some res := hF
    unfold F_X12_reached_B18 at hF
    refine at_iload_n (pc := 18) C 2 dX12_reached_18 rfl rfl ?_
    refine at_aload_n (pc := 19) C 0 dX12_reached_19 rfl rfl ?_
    refine at_geti (pc := 20) (jz := 14) C fw_12_135 kd94 rfl (Nat.le_of_ble_eq_true rfl) rfl rfl dX12_reached_20 ?_
    refine at_icmp_ge (pc := 23) (tgt := 51) C h2 (ok 94 14) dX12_reached_23 rfl (fun c3 => ?_) (fun c3 => ?_)
    · have hF := (if_pos c3).symm.trans hF
      refine at_iload_n (pc := 51) C 1 dX12_reached_51 rfl rfl ?_
      obtain rfl := Option.some.inj hF
      exact at_iret (pc := 52) C hr hlk h1 ok dX12_reached_52
    · have hF := (if_neg c3).symm.trans hF
      have J43 : ∀ (v2 : Int) (t0 : Int) (t1 : Int), inR v2 → inR t0 → inR t1 → F_X12_reached_J43 N nx18 v2 t0 t1 σ = some res → At p l e rm_X12_reached s m args below meth c 0 0 g 3 (MQ below (QI g s.heap.size res.1 res.2 inR) args s 0 0 (AA g s.heap.size)) 43 [(0, vr g 94), (2, vi v2)] [vi t1, vi t0] σ := by
        intro v2 t0 t1 h2 ht0 ht1 hF
        unfold F_X12_reached_J43 at hF
        refine at_ior (pc := 43) C dX12_reached_43 ?_
        refine at_istore_n (pc := 44) (lv' := [(1, vi (jor t0 t1)), (0, vr g 94), (2, vi v2)]) C dX12_reached_44 rfl (Nat.le_of_ble_eq_true rfl) rfl ?_
        refine at_iinc (pc := 45) (lv' := [(2, vi (ja v2 1)), (1, vi (jor t0 t1)), (0, vr g 94)]) C 2 dX12_reached_45 rfl (Nat.le_of_ble_eq_true rfl) rfl ?_
        refine at_goto (pc := 48) (tgt := 18) C dX12_reached_48 rfl ?_
        refine at_sub (lv' := [(0, vr g 94), (1, vi (jor t0 t1)), (2, vi (ja v2 1))]) [2, 1, 0] rfl ?_
        exact ih18 _ hF (jor_R t0 t1) (ja_R v2 1)
      refine at_iload_n (pc := 26) C 1 dX12_reached_26 rfl rfl ?_
      refine at_aload_n (pc := 27) C 0 dX12_reached_27 rfl rfl ?_
      refine at_getr (pc := 28) (k' := 109) C 15 fw_12_63 kd94 rfl (Nat.le_of_ble_eq_true rfl) rfl rfl dX12_reached_28 ?_
      refine at_iload_n (pc := 31) C 2 dX12_reached_31 rfl rfl ?_
      obtain ⟨b4, hF⟩ := inb_some hF
      refine at_iaload (pc := 32) C kd109 b4 dX12_reached_32 ?_
      refine at_if_le (pc := 33) (tgt := 42) C (ok 109 v2) dX12_reached_33 rfl (fun c5 => ?_) (fun c5 => ?_)
      · have hF := (if_pos c5).symm.trans hF
        refine at_iconst (pc := 42) C dX12_reached_42 ?_
        refine at_sub (lv' := [(0, vr g 94), (2, vi v2)]) [0, 2] rfl ?_
        exact J43 v2 v1 0 h2 h1 (isB.r (Or.inl rfl)) hF
      · have hF := (if_neg c5).symm.trans hF
        refine at_iconst (pc := 36) C dX12_reached_36 ?_
        refine at_iload_n (pc := 37) C 2 dX12_reached_37 rfl rfl ?_
        refine at_ishl (pc := 38) C dX12_reached_38 ?_
        refine at_goto (pc := 39) (tgt := 43) C dX12_reached_39 rfl ?_
        refine at_sub (lv' := [(0, vr g 94), (2, vi v2)]) [0, 2] rfl ?_
        exact J43 v2 v1 (jshl 1 v2) h2 h1 (jshl_R 1 v2) hF
  refine at_sub (lv' := [(0, vr g 94), (1, vi 0), (2, vi 0)]) [2, 1, 0] rfl ?_
  exact L18 0 0 q2 (isB.r (Or.inl rfl)) (isB.r (Or.inl rfl)) okq2 hF
abbrev rm_X12_left : Room := { frames := 6, cells := 0, slots := 0, locals := 142 }
def F_X12_left (N : Nat) (v1 : Int) (σ : Sto) : Option (Int × Sto) :=
  (F_X12_isPeriod N v1 (upI σ 94 2 0)).bind (fun q1 => if q1 = 0 then (some ((-1), (upI σ 94 2 0))) else ((F_X12_solves N (upI σ 94 2 0)).bind (fun q3 => inb v1 12 (some ((q3.2.1 105 v1), q3.2)))))
set_option maxHeartbeats 4000000 in
set_option maxRecDepth 100000 in
theorem c_X12_left (l : Launch) (g : Geo) (N : Nat) (v1 : Int) (σ : Sto) (res : Int × Sto) (h1 : inR v1) (ok : OK σ) (hF : F_X12_left N v1 σ = some res) : MtI l g yX12_left cX12_left 2 (some .int) rm_X12_left [vr g 94, vi v1] σ res.1 res.2 inR := by
  intro sz
  refine Met.ofAt (own := RX12) (QQ := fun z => QI g z res.1 res.2 inR) (by decide +kernel) (Nat.le_of_ble_eq_true rfl) rfl ?_
  intro p e s m args below meth c C hr hlk
  show At p l e rm_X12_left s m args below meth c 0 0 g 2 (MQ below (QI g s.heap.size res.1 res.2 inR) args s 0 0 (AA g s.heap.size)) 0 [(0, vr g 94), (1, vi v1)] [] σ
  unfold F_X12_left at hF
  refine at_aload_n (pc := 0) C 0 dX12_left_0 rfl rfl ?_
  refine at_iconst (pc := 1) C dX12_left_1 ?_
  refine at_puti (pc := 2) (jz := 2) C fu_12_81 kd94 rfl (Nat.le_of_ble_eq_true rfl) rfl rfl dX12_left_2 ?_
  refine at_aload_n (pc := 5) C 0 dX12_left_5 rfl rfl ?_
  refine at_iload_n (pc := 6) C 1 dX12_left_6 rfl rfl ?_
  obtain ⟨q1, eq1, hF⟩ := bind_some' hF
  refine at_callV (pc := 7) (ci := 12) C (c_X12_isPeriod l g N v1 (upI σ 94 2 0) q1 h1 (OK_up (k := 94) (j := 2) ok (isB.r (Or.inl rfl))) eq1) kv_X12_isPeriod w1581 kd94 rfl rfl rfl rfl (Nat.le_of_ble_eq_true rfl) ⟨rfl, rfl, (Nat.le_of_ble_eq_true rfl), (Nat.le_of_ble_eq_true rfl)⟩ dX12_left_7 (fun tq1 okq1 => ?_)
  refine at_if_ne (pc := 10) (tgt := 15) C (isB.r tq1) dX12_left_10 rfl (fun c2 => ?_) (fun c2 => ?_)
  · have hF := (if_neg c2).symm.trans hF
    refine at_aload_n (pc := 15) C 0 dX12_left_15 rfl rfl ?_
    obtain ⟨q3, eq3, hF⟩ := bind_some' hF
    refine at_callV (pc := 16) (ci := 12) C (c_X12_solves l g N  (upI σ 94 2 0) q3  (OK_up (k := 94) (j := 2) ok (isB.r (Or.inl rfl))) eq3) kv_X12_solves w1683 kd94 rfl rfl rfl rfl (Nat.le_of_ble_eq_true rfl) ⟨rfl, rfl, (Nat.le_of_ble_eq_true rfl), (Nat.le_of_ble_eq_true rfl)⟩ dX12_left_16 (fun tq3 okq3 => ?_)
    refine at_pop (pc := 19) C dX12_left_19 rfl ?_
    refine at_aload_n (pc := 20) C 0 dX12_left_20 rfl rfl ?_
    refine at_getr (pc := 21) (k' := 105) C 11 fw_12_48 kd94 rfl (Nat.le_of_ble_eq_true rfl) rfl rfl dX12_left_21 ?_
    refine at_iload_n (pc := 24) C 1 dX12_left_24 rfl rfl ?_
    obtain ⟨b4, hF⟩ := inb_some hF
    refine at_iaload (pc := 25) C kd105 b4 dX12_left_25 ?_
    obtain rfl := Option.some.inj hF
    exact at_iret (pc := 26) C hr hlk (okq3 105 v1) okq3 dX12_left_26
  · have hF := (if_pos c2).symm.trans hF
    refine at_iconst (pc := 13) C dX12_left_13 ?_
    obtain rfl := Option.some.inj hF
    exact at_iret (pc := 14) C hr hlk (show inR (-1) from ⟨by decide, by decide⟩) (OK_up (k := 94) (j := 2) ok (isB.r (Or.inl rfl))) dX12_left_14
abbrev rm_X12_pays : Room := { frames := 6, cells := 0, slots := 0, locals := 142 }
def F_X12_pays_J194 (N : Nat) (nx127 : (Int × Int) → Option (Int × Sto)) (v1 : Int) (v2 : Int) (v3 : Int) (v4 : Int) (σ : Sto) : Option (Int × Sto) :=
  nx127 (v3, (ja v4 1))
def F_X12_pays_J163 (N : Nat) (nx127 : (Int × Int) → Option (Int × Sto)) (v1 : Int) (v2 : Int) (v3 : Int) (v4 : Int) (t1 : Int) (σ : Sto) : Option (Int × Sto) :=
  (F_X12_memberOf N t1 σ).bind (fun q10 => if q10 = v1 then (inb v4 144 ((F_X12_paid N (jdiv v4 12) (jrem v4 12) (σ.1 107 v4) σ).bind (fun q13 => F_X12_pays_J194 N nx127 v1 v2 (ja v3 q13) v4 σ))) else (F_X12_pays_J194 N nx127 v1 v2 v3 v4 σ))
def F_X12_pays_B127 (N : Nat) (nx127 : (Int × Int) → Option (Int × Sto)) (v1 : Int) (v2 : Int) (v3 : Int) (v4 : Int) (σ : Sto) : Option (Int × Sto) :=
  if 144 ≤ v4 then (some (v3, σ)) else (inb v4 144 (if (σ.1 107 v4) ≤ 0 then (F_X12_pays_J194 N nx127 v1 v2 v3 v4 σ) else (if v2 = 0 then (F_X12_pays_J163 N nx127 v1 v2 v3 v4 (jrem v4 12) σ) else (F_X12_pays_J163 N nx127 v1 v2 v3 v4 (jdiv v4 12) σ))))
def F_X12_pays_J109 (N : Nat) (nx34 : (Int × Int) → Option (Int × Sto)) (v1 : Int) (v2 : Int) (v4 : Int) (t0 : Int) (t1 : Int) (σ : Sto) : Option (Int × Sto) :=
  nx34 ((ja t0 t1), (ja v4 1))
def F_X12_pays_J69 (N : Nat) (nx34 : (Int × Int) → Option (Int × Sto)) (v1 : Int) (v2 : Int) (v4 : Int) (v5 : Int) (t0 : Int) (t3 : Int) (σ : Sto) : Option (Int × Sto) :=
  (F_X12_of N t3 σ).bind (fun q17 => (F_X12_memberOf N q17 σ).bind (fun q18 => if q18 = v1 then ((F_X12_of N v5 σ).bind (fun q20 => (F_X12_of N (ja v5 1) σ).bind (fun q21 => (F_X12_of N (ja v5 2) σ).bind (fun q22 => (F_X12_paid N q20 q21 q22 σ).bind (fun q23 => F_X12_pays_J109 N nx34 v1 v2 v4 t0 q23 σ))))) else (F_X12_pays_J109 N nx34 v1 v2 v4 t0 0 σ)))
def F_X12_pays_B34 (N : Nat) (nx34 : (Int × Int) → Option (Int × Sto)) (v1 : Int) (v2 : Int) (v3 : Int) (v4 : Int) (σ : Sto) : Option (Int × Sto) :=
  (F_X12_of N 0 σ).bind (fun q15 => if q15 ≤ v4 then (some (v3, σ)) else (if v2 = 2 then (F_X12_pays_J69 N nx34 v1 v2 v4 (ja 1 (jm 3 v4)) v3 (ja (ja 1 (jm 3 v4)) 1) σ) else (F_X12_pays_J69 N nx34 v1 v2 v4 (ja 1 (jm 3 v4)) v3 (ja 1 (jm 3 v4)) σ)))
def F_X12_pays (N : Nat) (v1 : Int) (v2 : Int) (σ : Sto) : Option (Int × Sto) :=
  (F_X12_isMember N v1 (upI σ 94 2 0)).bind (fun q1 => if q1 = 0 then (some ((-1), (upI σ 94 2 0))) else ((F_X12_isIn N v2 0 3 (upI σ 94 2 0)).bind (fun q3 => if q3 = 0 then (some ((-1), (upI σ 94 2 0))) else (if v2 ≤ 1 then ((F_X12_solves N (upI σ 94 2 0)).bind (fun q6 => loopK (fun q nx127 => F_X12_pays_B127 N  nx127 v1 v2 q.1 q.2 q6.2) N (0, 0))) else (loopK (fun q nx34 => F_X12_pays_B34 N  nx34 v1 v2 q.1 q.2 (upI σ 94 2 0)) N (0, 0))))))
set_option maxHeartbeats 4000000 in
set_option maxRecDepth 100000 in
theorem c_X12_pays (l : Launch) (g : Geo) (N : Nat) (v1 : Int) (v2 : Int) (σ : Sto) (res : Int × Sto) (h1 : inR v1) (h2 : inR v2) (ok : OK σ) (hF : F_X12_pays N v1 v2 σ = some res) : MtI l g yX12_pays cX12_pays 6 (some .int) rm_X12_pays [vr g 94, vi v1, vi v2] σ res.1 res.2 inR := by
  intro sz
  refine Met.ofAt (own := RX12) (QQ := fun z => QI g z res.1 res.2 inR) (by decide +kernel) (Nat.le_of_ble_eq_true rfl) rfl ?_
  intro p e s m args below meth c C hr hlk
  show At p l e rm_X12_pays s m args below meth c 0 0 g 6 (MQ below (QI g s.heap.size res.1 res.2 inR) args s 0 0 (AA g s.heap.size)) 0 [(0, vr g 94), (1, vi v1), (2, vi v2)] [] σ
  unfold F_X12_pays at hF
  refine at_aload_n (pc := 0) C 0 dX12_pays_0 rfl rfl ?_
  refine at_iconst (pc := 1) C dX12_pays_1 ?_
  refine at_puti (pc := 2) (jz := 2) C fu_12_81 kd94 rfl (Nat.le_of_ble_eq_true rfl) rfl rfl dX12_pays_2 ?_
  refine at_aload_n (pc := 5) C 0 dX12_pays_5 rfl rfl ?_
  refine at_iload_n (pc := 6) C 1 dX12_pays_6 rfl rfl ?_
  obtain ⟨q1, eq1, hF⟩ := bind_some' hF
  refine at_callV (pc := 7) (ci := 12) C (c_X12_isMember l g N v1 (upI σ 94 2 0) q1 h1 (OK_up (k := 94) (j := 2) ok (isB.r (Or.inl rfl))) eq1) kv_X12_isMember w1727 kd94 rfl rfl rfl rfl (Nat.le_of_ble_eq_true rfl) ⟨rfl, rfl, (Nat.le_of_ble_eq_true rfl), (Nat.le_of_ble_eq_true rfl)⟩ dX12_pays_7 (fun tq1 okq1 => ?_)
  refine at_if_eq (pc := 10) (tgt := 22) C (isB.r tq1) dX12_pays_10 rfl (fun c2 => ?_) (fun c2 => ?_)
  · have hF := (if_pos c2).symm.trans hF
    refine at_iconst (pc := 22) C dX12_pays_22 ?_
    obtain rfl := Option.some.inj hF
    exact at_iret (pc := 23) C hr hlk (show inR (-1) from ⟨by decide, by decide⟩) (OK_up (k := 94) (j := 2) ok (isB.r (Or.inl rfl))) dX12_pays_23
  · have hF := (if_neg c2).symm.trans hF
    refine at_iload_n (pc := 13) C 2 dX12_pays_13 rfl rfl ?_
    refine at_iconst (pc := 14) C dX12_pays_14 ?_
    refine at_iconst (pc := 15) C dX12_pays_15 ?_
    obtain ⟨q3, eq3, hF⟩ := bind_some' hF
    refine at_callS (pc := 16) C (c_X12_isIn l g N v2 0 3 (upI σ 94 2 0) q3 h2 (isB.r (Or.inl rfl)) (show inR 3 from ⟨by decide, by decide⟩) (OK_up (k := 94) (j := 2) ok (isB.r (Or.inl rfl))) eq3) ks_X12_isIn w1525 rfl rfl (Nat.le_of_ble_eq_true rfl) ⟨rfl, rfl, (Nat.le_of_ble_eq_true rfl), (Nat.le_of_ble_eq_true rfl)⟩ dX12_pays_16 (fun tq3 okq3 => ?_)
    refine at_if_ne (pc := 19) (tgt := 24) C (isB.r tq3) dX12_pays_19 rfl (fun c4 => ?_) (fun c4 => ?_)
    · have hF := (if_neg c4).symm.trans hF
      refine at_iconst (pc := 24) C dX12_pays_24 ?_
      refine at_istore_n (pc := 25) (lv' := [(3, vi 0), (0, vr g 94), (1, vi v1), (2, vi v2)]) C dX12_pays_25 rfl (Nat.le_of_ble_eq_true rfl) rfl ?_
      refine at_iload_n (pc := 26) C 3 dX12_pays_26 rfl rfl ?_
      refine at_iconst (pc := 27) C dX12_pays_27 ?_
      refine at_icmp_le (pc := 28) (tgt := 119) C h2 (isB.r (Or.inr rfl)) dX12_pays_28 rfl (fun c5 => ?_) (fun c5 => ?_)
      · have hF := (if_pos c5).symm.trans hF
        refine at_aload_n (pc := 119) C 1 dX12_pays_119 rfl rfl ?_
        obtain ⟨q6, eq6, hF⟩ := bind_some' hF
        refine at_callV (pc := 120) (ci := 12) C (c_X12_solves l g N  (upI σ 94 2 0) q6  (OK_up (k := 94) (j := 2) ok (isB.r (Or.inl rfl))) eq6) kv_X12_solves w1683 kd94 rfl rfl rfl rfl (Nat.le_of_ble_eq_true rfl) ⟨rfl, rfl, (Nat.le_of_ble_eq_true rfl), (Nat.le_of_ble_eq_true rfl)⟩ dX12_pays_120 (fun tq6 okq6 => ?_)
        refine at_pop (pc := 123) C dX12_pays_123 rfl ?_
        refine at_iconst (pc := 124) C dX12_pays_124 ?_
        refine at_istore (pc := 125) (lv' := [(4, vi 0), (3, vi 0), (0, vr g 94), (1, vi v1), (2, vi v2)]) C dX12_pays_125 (Nat.le_of_ble_eq_true rfl) rfl ?_
        have L127 : ∀ (v1 : Int) (v2 : Int) (v3 : Int) (v4 : Int) (σ : Sto), inR v1 → inR v2 → inR v3 → inR v4 → OK σ → loopK (fun q nx127 => F_X12_pays_B127 N  nx127 v1 v2 q.1 q.2 σ) N (v3, v4) = some res → At p l e rm_X12_pays s m args below meth c 0 0 g 6 (MQ below (QI g s.heap.size res.1 res.2 inR) args s 0 0 (AA g s.heap.size)) 127 [(0, vr g 94), (1, vi v1), (2, vi v2), (3, vi v3), (4, vi v4)] [] σ := by
          intro v1 v2 v3 v4 σ h1 h2 h3 h4 ok hF
          refine loopK_ind (res := res) (P := fun (q : Int × Int) => inR q.1 → inR q.2 → At p l e rm_X12_pays s m args below meth c 0 0 g 6 (MQ below (QI g s.heap.size res.1 res.2 inR) args s 0 0 (AA g s.heap.size)) 127 [(0, vr g 94), (1, vi v1), (2, vi v2), (3, vi q.1), (4, vi q.2)] [] σ) ?_ N _ hF h3 h4
          intro nx127 q ih127 hF
          obtain ⟨v3, v4⟩ := q
          intro h3 h4
          have hF : F_X12_pays_B127 N  nx127 v1 v2 v3 v4 σ = some res := hF
          unfold F_X12_pays_B127 at hF
          refine at_iload (pc := 127) C 4 dX12_pays_127 rfl ?_
          refine at_sipush (pc := 129) C dX12_pays_129 (by decide) ?_
          refine at_icmp_ge (pc := 132) (tgt := 200) C h4 (show inR 144 from ⟨by decide, by decide⟩) dX12_pays_132 rfl (fun c7 => ?_) (fun c7 => ?_)
          · have hF := (if_pos c7).symm.trans hF
            refine at_iload_n (pc := 200) C 3 dX12_pays_200 rfl rfl ?_
            obtain rfl := Option.some.inj hF
            exact at_iret (pc := 201) C hr hlk h3 ok dX12_pays_201
          · have hF := (if_neg c7).symm.trans hF
            have J194 : ∀ (v3 : Int) (v4 : Int), inR v3 → inR v4 → F_X12_pays_J194 N nx127 v1 v2 v3 v4 σ = some res → At p l e rm_X12_pays s m args below meth c 0 0 g 6 (MQ below (QI g s.heap.size res.1 res.2 inR) args s 0 0 (AA g s.heap.size)) 194 [(0, vr g 94), (1, vi v1), (2, vi v2), (3, vi v3), (4, vi v4)] [] σ := by
              intro v3 v4 h3 h4 hF
              unfold F_X12_pays_J194 at hF
              refine at_iinc (pc := 194) (lv' := [(4, vi (ja v4 1)), (0, vr g 94), (1, vi v1), (2, vi v2), (3, vi v3)]) C 4 dX12_pays_194 rfl (Nat.le_of_ble_eq_true rfl) rfl ?_
              refine at_goto (pc := 197) (tgt := 127) C dX12_pays_197 rfl ?_
              refine at_sub (lv' := [(0, vr g 94), (1, vi v1), (2, vi v2), (3, vi v3), (4, vi (ja v4 1))]) [1, 2, 3, 4, 0] rfl ?_
              exact ih127 _ hF h3 (ja_R v4 1)
            refine at_aload_n (pc := 135) C 0 dX12_pays_135 rfl rfl ?_
            refine at_getr (pc := 136) (k' := 107) C 13 fw_12_54 kd94 rfl (Nat.le_of_ble_eq_true rfl) rfl rfl dX12_pays_136 ?_
            refine at_iload (pc := 139) C 4 dX12_pays_139 rfl ?_
            obtain ⟨b8, hF⟩ := inb_some hF
            refine at_iaload (pc := 141) C kd107 b8 dX12_pays_141 ?_
            refine at_if_le (pc := 142) (tgt := 194) C (ok 107 v4) dX12_pays_142 rfl (fun c9 => ?_) (fun c9 => ?_)
            · have hF := (if_pos c9).symm.trans hF
              exact J194 v3 v4 h3 h4 hF
            · have hF := (if_neg c9).symm.trans hF
              have J163 : ∀ (v3 : Int) (v4 : Int) (t1 : Int), inR v3 → inR v4 → inR t1 → F_X12_pays_J163 N nx127 v1 v2 v3 v4 t1 σ = some res → At p l e rm_X12_pays s m args below meth c 0 0 g 6 (MQ below (QI g s.heap.size res.1 res.2 inR) args s 0 0 (AA g s.heap.size)) 163 [(0, vr g 94), (1, vi v1), (2, vi v2), (3, vi v3), (4, vi v4)] [vi t1, vr g 94] σ := by
                intro v3 v4 t1 h3 h4 ht1 hF
                unfold F_X12_pays_J163 at hF
                obtain ⟨q10, eq10, hF⟩ := bind_some' hF
                refine at_callV (pc := 163) (ci := 12) C (c_X12_memberOf l g N t1 σ q10 ht1 ok eq10) kv_X12_memberOf w1593 kd94 rfl rfl rfl rfl (Nat.le_of_ble_eq_true rfl) ⟨rfl, rfl, (Nat.le_of_ble_eq_true rfl), (Nat.le_of_ble_eq_true rfl)⟩ dX12_pays_163 (fun tq10 okq10 => ?_)
                refine at_iload_n (pc := 166) C 1 dX12_pays_166 rfl rfl ?_
                refine at_icmp_ne (pc := 167) (tgt := 194) C tq10 h1 dX12_pays_167 rfl (fun c11 => ?_) (fun c11 => ?_)
                · have hF := (if_neg c11).symm.trans hF
                  exact J194 v3 v4 h3 h4 hF
                · have hF := (if_pos c11).symm.trans hF
                  refine at_iload_n (pc := 170) C 3 dX12_pays_170 rfl rfl ?_
                  refine at_aload_n (pc := 171) C 0 dX12_pays_171 rfl rfl ?_
                  refine at_iload (pc := 172) C 4 dX12_pays_172 rfl ?_
                  refine at_bipush (pc := 174) C dX12_pays_174 (by decide) ?_
                  refine at_idiv (pc := 176) C dX12_pays_176 (show inR 12 from ⟨by decide, by decide⟩) (by decide) ?_
                  refine at_iload (pc := 177) C 4 dX12_pays_177 rfl ?_
                  refine at_bipush (pc := 179) C dX12_pays_179 (by decide) ?_
                  refine at_irem (pc := 181) C dX12_pays_181 (show inR 12 from ⟨by decide, by decide⟩) (by decide) ?_
                  refine at_aload_n (pc := 182) C 0 dX12_pays_182 rfl rfl ?_
                  refine at_getr (pc := 183) (k' := 107) C 13 fw_12_54 kd94 rfl (Nat.le_of_ble_eq_true rfl) rfl rfl dX12_pays_183 ?_
                  refine at_iload (pc := 186) C 4 dX12_pays_186 rfl ?_
                  obtain ⟨b12, hF⟩ := inb_some hF
                  refine at_iaload (pc := 188) C kd107 b12 dX12_pays_188 ?_
                  obtain ⟨q13, eq13, hF⟩ := bind_some' hF
                  refine at_callV (pc := 189) (ci := 12) C (c_X12_paid l g N (jdiv v4 12) (jrem v4 12) (σ.1 107 v4) σ q13 (jdiv_R v4 12) (jrem_R v4 12) (ok 107 v4) ok eq13) kv_X12_paid w1674 kd94 rfl rfl rfl rfl (Nat.le_of_ble_eq_true rfl) ⟨rfl, rfl, (Nat.le_of_ble_eq_true rfl), (Nat.le_of_ble_eq_true rfl)⟩ dX12_pays_189 (fun tq13 okq13 => ?_)
                  refine at_iadd (pc := 192) C dX12_pays_192 ?_
                  refine at_istore_n (pc := 193) (lv' := [(3, vi (ja v3 q13)), (0, vr g 94), (1, vi v1), (2, vi v2), (4, vi v4)]) C dX12_pays_193 rfl (Nat.le_of_ble_eq_true rfl) rfl ?_
                  refine at_sub (lv' := [(0, vr g 94), (1, vi v1), (2, vi v2), (3, vi (ja v3 q13)), (4, vi v4)]) [1, 2, 3, 0, 4] rfl ?_
                  exact J194 (ja v3 q13) v4 (ja_R v3 q13) h4 hF
              refine at_aload_n (pc := 145) C 0 dX12_pays_145 rfl rfl ?_
              refine at_iload_n (pc := 146) C 2 dX12_pays_146 rfl rfl ?_
              refine at_if_ne (pc := 147) (tgt := 158) C h2 dX12_pays_147 rfl (fun c14 => ?_) (fun c14 => ?_)
              · have hF := (if_neg c14).symm.trans hF
                refine at_iload (pc := 158) C 4 dX12_pays_158 rfl ?_
                refine at_bipush (pc := 160) C dX12_pays_160 (by decide) ?_
                refine at_idiv (pc := 162) C dX12_pays_162 (show inR 12 from ⟨by decide, by decide⟩) (by decide) ?_
                exact J163 v3 v4 (jdiv v4 12) h3 h4 (jdiv_R v4 12) hF
              · have hF := (if_pos c14).symm.trans hF
                refine at_iload (pc := 150) C 4 dX12_pays_150 rfl ?_
                refine at_bipush (pc := 152) C dX12_pays_152 (by decide) ?_
                refine at_irem (pc := 154) C dX12_pays_154 (show inR 12 from ⟨by decide, by decide⟩) (by decide) ?_
                refine at_goto (pc := 155) (tgt := 163) C dX12_pays_155 rfl ?_
                exact J163 v3 v4 (jrem v4 12) h3 h4 (jrem_R v4 12) hF
        refine at_sub (lv' := [(0, vr g 94), (1, vi v1), (2, vi v2), (3, vi 0), (4, vi 0)]) [2, 3, 4, 1, 0] rfl ?_
        exact L127 v1 v2 0 0 q6.2 h1 h2 (isB.r (Or.inl rfl)) (isB.r (Or.inl rfl)) okq6 hF
      · have hF := (if_neg c5).symm.trans hF
        refine at_iconst (pc := 31) C dX12_pays_31 ?_
        refine at_istore (pc := 32) (lv' := [(4, vi 0), (3, vi 0), (0, vr g 94), (1, vi v1), (2, vi v2)]) C dX12_pays_32 (Nat.le_of_ble_eq_true rfl) rfl ?_
        have L34 : ∀ (v1 : Int) (v2 : Int) (v3 : Int) (v4 : Int) (σ : Sto), inR v1 → inR v2 → inR v3 → inR v4 → OK σ → loopK (fun q nx34 => F_X12_pays_B34 N  nx34 v1 v2 q.1 q.2 σ) N (v3, v4) = some res → At p l e rm_X12_pays s m args below meth c 0 0 g 6 (MQ below (QI g s.heap.size res.1 res.2 inR) args s 0 0 (AA g s.heap.size)) 34 [(0, vr g 94), (1, vi v1), (2, vi v2), (3, vi v3), (4, vi v4)] [] σ := by
          intro v1 v2 v3 v4 σ h1 h2 h3 h4 ok hF
          refine loopK_ind (res := res) (P := fun (q : Int × Int) => inR q.1 → inR q.2 → At p l e rm_X12_pays s m args below meth c 0 0 g 6 (MQ below (QI g s.heap.size res.1 res.2 inR) args s 0 0 (AA g s.heap.size)) 34 [(0, vr g 94), (1, vi v1), (2, vi v2), (3, vi q.1), (4, vi q.2)] [] σ) ?_ N _ hF h3 h4
          intro nx34 q ih34 hF
          obtain ⟨v3, v4⟩ := q
          intro h3 h4
          have hF : F_X12_pays_B34 N  nx34 v1 v2 v3 v4 σ = some res := hF
          unfold F_X12_pays_B34 at hF
          refine at_iload (pc := 34) C 4 dX12_pays_34 rfl ?_
          refine at_aload_n (pc := 36) C 0 dX12_pays_36 rfl rfl ?_
          refine at_iconst (pc := 37) C dX12_pays_37 ?_
          obtain ⟨q15, eq15, hF⟩ := bind_some' hF
          refine at_callV (pc := 38) (ci := 12) C (c_X12_of l g N 0 σ q15 (isB.r (Or.inl rfl)) ok eq15) kv_X12_of w1565 kd94 rfl rfl rfl rfl (Nat.le_of_ble_eq_true rfl) ⟨rfl, rfl, (Nat.le_of_ble_eq_true rfl), (Nat.le_of_ble_eq_true rfl)⟩ dX12_pays_38 (fun tq15 okq15 => ?_)
          refine at_icmp_ge (pc := 41) (tgt := 117) C h4 tq15 dX12_pays_41 rfl (fun c16 => ?_) (fun c16 => ?_)
          · have hF := (if_pos c16).symm.trans hF
            refine at_iload_n (pc := 117) C 3 dX12_pays_117 rfl rfl ?_
            obtain rfl := Option.some.inj hF
            exact at_iret (pc := 118) C hr hlk h3 ok dX12_pays_118
          · have hF := (if_neg c16).symm.trans hF
            have J69 : ∀ (v4 : Int) (v5 : Int) (t0 : Int) (t3 : Int), inR v4 → inR v5 → inR t0 → inR t3 → F_X12_pays_J69 N nx34 v1 v2 v4 v5 t0 t3 σ = some res → At p l e rm_X12_pays s m args below meth c 0 0 g 6 (MQ below (QI g s.heap.size res.1 res.2 inR) args s 0 0 (AA g s.heap.size)) 69 [(0, vr g 94), (1, vi v1), (2, vi v2), (4, vi v4), (5, vi v5)] [vi t3, vr g 94, vr g 94, vi t0] σ := by
              intro v4 v5 t0 t3 h4 h5 ht0 ht3 hF
              unfold F_X12_pays_J69 at hF
              have J109 : ∀ (v4 : Int) (t0 : Int) (t1 : Int), inR v4 → inR t0 → inR t1 → F_X12_pays_J109 N nx34 v1 v2 v4 t0 t1 σ = some res → At p l e rm_X12_pays s m args below meth c 0 0 g 6 (MQ below (QI g s.heap.size res.1 res.2 inR) args s 0 0 (AA g s.heap.size)) 109 [(0, vr g 94), (1, vi v1), (2, vi v2), (4, vi v4)] [vi t1, vi t0] σ := by
                intro v4 t0 t1 h4 ht0 ht1 hF
                unfold F_X12_pays_J109 at hF
                refine at_iadd (pc := 109) C dX12_pays_109 ?_
                refine at_istore_n (pc := 110) (lv' := [(3, vi (ja t0 t1)), (0, vr g 94), (1, vi v1), (2, vi v2), (4, vi v4)]) C dX12_pays_110 rfl (Nat.le_of_ble_eq_true rfl) rfl ?_
                refine at_iinc (pc := 111) (lv' := [(4, vi (ja v4 1)), (3, vi (ja t0 t1)), (0, vr g 94), (1, vi v1), (2, vi v2)]) C 4 dX12_pays_111 rfl (Nat.le_of_ble_eq_true rfl) rfl ?_
                refine at_goto (pc := 114) (tgt := 34) C dX12_pays_114 rfl ?_
                refine at_sub (lv' := [(0, vr g 94), (1, vi v1), (2, vi v2), (3, vi (ja t0 t1)), (4, vi (ja v4 1))]) [2, 3, 4, 1, 0] rfl ?_
                exact ih34 _ hF (ja_R t0 t1) (ja_R v4 1)
              obtain ⟨q17, eq17, hF⟩ := bind_some' hF
              refine at_callV (pc := 69) (ci := 12) C (c_X12_of l g N t3 σ q17 ht3 ok eq17) kv_X12_of w1565 kd94 rfl rfl rfl rfl (Nat.le_of_ble_eq_true rfl) ⟨rfl, rfl, (Nat.le_of_ble_eq_true rfl), (Nat.le_of_ble_eq_true rfl)⟩ dX12_pays_69 (fun tq17 okq17 => ?_)
              obtain ⟨q18, eq18, hF⟩ := bind_some' hF
              refine at_callV (pc := 72) (ci := 12) C (c_X12_memberOf l g N q17 σ q18 tq17 ok eq18) kv_X12_memberOf w1593 kd94 rfl rfl rfl rfl (Nat.le_of_ble_eq_true rfl) ⟨rfl, rfl, (Nat.le_of_ble_eq_true rfl), (Nat.le_of_ble_eq_true rfl)⟩ dX12_pays_72 (fun tq18 okq18 => ?_)
              refine at_iload_n (pc := 75) C 1 dX12_pays_75 rfl rfl ?_
              refine at_icmp_ne (pc := 76) (tgt := 108) C tq18 h1 dX12_pays_76 rfl (fun c19 => ?_) (fun c19 => ?_)
              · have hF := (if_neg c19).symm.trans hF
                refine at_iconst (pc := 108) C dX12_pays_108 ?_
                refine at_sub (lv' := [(0, vr g 94), (1, vi v1), (2, vi v2), (4, vi v4)]) [0, 1, 2, 3] rfl ?_
                exact J109 v4 t0 0 h4 ht0 (isB.r (Or.inl rfl)) hF
              · have hF := (if_pos c19).symm.trans hF
                refine at_aload_n (pc := 79) C 0 dX12_pays_79 rfl rfl ?_
                refine at_aload_n (pc := 80) C 0 dX12_pays_80 rfl rfl ?_
                refine at_iload (pc := 81) C 4 dX12_pays_81 rfl ?_
                obtain ⟨q20, eq20, hF⟩ := bind_some' hF
                refine at_callV (pc := 83) (ci := 12) C (c_X12_of l g N v5 σ q20 h5 ok eq20) kv_X12_of w1565 kd94 rfl rfl rfl rfl (Nat.le_of_ble_eq_true rfl) ⟨rfl, rfl, (Nat.le_of_ble_eq_true rfl), (Nat.le_of_ble_eq_true rfl)⟩ dX12_pays_83 (fun tq20 okq20 => ?_)
                refine at_aload_n (pc := 86) C 0 dX12_pays_86 rfl rfl ?_
                refine at_iload (pc := 87) C 4 dX12_pays_87 rfl ?_
                refine at_iconst (pc := 89) C dX12_pays_89 ?_
                refine at_iadd (pc := 90) C dX12_pays_90 ?_
                obtain ⟨q21, eq21, hF⟩ := bind_some' hF
                refine at_callV (pc := 91) (ci := 12) C (c_X12_of l g N (ja v5 1) σ q21 (ja_R v5 1) ok eq21) kv_X12_of w1565 kd94 rfl rfl rfl rfl (Nat.le_of_ble_eq_true rfl) ⟨rfl, rfl, (Nat.le_of_ble_eq_true rfl), (Nat.le_of_ble_eq_true rfl)⟩ dX12_pays_91 (fun tq21 okq21 => ?_)
                refine at_aload_n (pc := 94) C 0 dX12_pays_94 rfl rfl ?_
                refine at_iload (pc := 95) C 4 dX12_pays_95 rfl ?_
                refine at_iconst (pc := 97) C dX12_pays_97 ?_
                refine at_iadd (pc := 98) C dX12_pays_98 ?_
                obtain ⟨q22, eq22, hF⟩ := bind_some' hF
                refine at_callV (pc := 99) (ci := 12) C (c_X12_of l g N (ja v5 2) σ q22 (ja_R v5 2) ok eq22) kv_X12_of w1565 kd94 rfl rfl rfl rfl (Nat.le_of_ble_eq_true rfl) ⟨rfl, rfl, (Nat.le_of_ble_eq_true rfl), (Nat.le_of_ble_eq_true rfl)⟩ dX12_pays_99 (fun tq22 okq22 => ?_)
                obtain ⟨q23, eq23, hF⟩ := bind_some' hF
                refine at_callV (pc := 102) (ci := 12) C (c_X12_paid l g N q20 q21 q22 σ q23 tq20 tq21 tq22 ok eq23) kv_X12_paid w1674 kd94 rfl rfl rfl rfl (Nat.le_of_ble_eq_true rfl) ⟨rfl, rfl, (Nat.le_of_ble_eq_true rfl), (Nat.le_of_ble_eq_true rfl)⟩ dX12_pays_102 (fun tq23 okq23 => ?_)
                refine at_goto (pc := 105) (tgt := 109) C dX12_pays_105 rfl ?_
                refine at_sub (lv' := [(0, vr g 94), (1, vi v1), (2, vi v2), (4, vi v4)]) [0, 1, 2, 3] rfl ?_
                exact J109 v4 t0 q23 h4 ht0 tq23 hF
            refine at_iconst (pc := 44) C dX12_pays_44 ?_
            refine at_iconst (pc := 45) C dX12_pays_45 ?_
            refine at_iload (pc := 46) C 4 dX12_pays_46 rfl ?_
            refine at_imul (pc := 48) C dX12_pays_48 ?_
            refine at_iadd (pc := 49) C dX12_pays_49 ?_
            refine at_istore (pc := 50) (lv' := [(5, vi (ja 1 (jm 3 v4))), (0, vr g 94), (1, vi v1), (2, vi v2), (3, vi v3), (4, vi v4)]) C dX12_pays_50 (Nat.le_of_ble_eq_true rfl) rfl ?_
            refine at_iload_n (pc := 52) C 4 dX12_pays_52 rfl rfl ?_
            refine at_aload_n (pc := 53) C 1 dX12_pays_53 rfl rfl ?_
            refine at_aload_n (pc := 54) C 1 dX12_pays_54 rfl rfl ?_
            refine at_iload_n (pc := 55) C 3 dX12_pays_55 rfl rfl ?_
            refine at_iconst (pc := 56) C dX12_pays_56 ?_
            refine at_icmp_ne (pc := 57) (tgt := 67) C h2 (show inR 2 from ⟨by decide, by decide⟩) dX12_pays_57 rfl (fun c24 => ?_) (fun c24 => ?_)
            · have hF := (if_neg c24).symm.trans hF
              refine at_iload (pc := 67) C 0 dX12_pays_67 rfl ?_
              refine at_sub (lv' := [(0, vr g 94), (1, vi v1), (2, vi v2), (4, vi v4), (5, vi (ja 1 (jm 3 v4)))]) [1, 2, 3, 5, 0] rfl ?_
              exact J69 v4 (ja 1 (jm 3 v4)) v3 (ja 1 (jm 3 v4)) h4 (ja_R 1 (jm 3 v4)) h3 (ja_R 1 (jm 3 v4)) hF
            · have hF := (if_pos c24).symm.trans hF
              refine at_iload (pc := 60) C 0 dX12_pays_60 rfl ?_
              refine at_iconst (pc := 62) C dX12_pays_62 ?_
              refine at_iadd (pc := 63) C dX12_pays_63 ?_
              refine at_goto (pc := 64) (tgt := 69) C dX12_pays_64 rfl ?_
              refine at_sub (lv' := [(0, vr g 94), (1, vi v1), (2, vi v2), (4, vi v4), (5, vi (ja 1 (jm 3 v4)))]) [1, 2, 3, 5, 0] rfl ?_
              exact J69 v4 (ja 1 (jm 3 v4)) v3 (ja (ja 1 (jm 3 v4)) 1) h4 (ja_R 1 (jm 3 v4)) h3 (ja_R (ja 1 (jm 3 v4)) 1) hF
        refine at_sub (lv' := [(0, vr g 94), (1, vi v1), (2, vi v2), (3, vi 0), (4, vi 0)]) [2, 3, 4, 1, 0] rfl ?_
        exact L34 v1 v2 0 0 (upI σ 94 2 0) h1 h2 (isB.r (Or.inl rfl)) (isB.r (Or.inl rfl)) (OK_up (k := 94) (j := 2) ok (isB.r (Or.inl rfl))) hF
    · have hF := (if_pos c4).symm.trans hF
      refine at_iconst (pc := 22) C dX12_pays_22 ?_
      obtain rfl := Option.some.inj hF
      exact at_iret (pc := 23) C hr hlk (show inR (-1) from ⟨by decide, by decide⟩) (OK_up (k := 94) (j := 2) ok (isB.r (Or.inl rfl))) dX12_pays_23
abbrev rm_X12_laysBalances : Room := { frames := 6, cells := 0, slots := 0, locals := 142 }
def F_X12_laysBalances_J235 (N : Nat) (nx176 : (Int × Sto) → Option (Sto)) (v1 : Int) (σ : Sto) : Option (Sto) :=
  nx176 ((ja v1 1), σ)
def F_X12_laysBalances_B191 (N : Nat) (nx176 : (Int × Sto) → Option (Sto)) (nx191 : (Int × Sto) → Option (Sto)) (v1 : Int) (v2 : Int) (σ : Sto) : Option (Sto) :=
  if 8 ≤ v2 then (F_X12_laysBalances_J235 N nx176 v1 σ) else (inb v1 8 (inb (ja (jm 8 v2) v1) 64 (inb (ja (jm 8 v1) v2) 64 (nx191 ((ja v2 1), (upI σ 112 v1 (ja (σ.1 112 v1) (js (σ.1 111 (ja (jm 8 v2) v1)) (σ.1 111 (ja (jm 8 v1) v2))))))))))
def F_X12_laysBalances_B176 (N : Nat) (nx176 : (Int × Sto) → Option (Sto))  (v1 : Int) (σ : Sto) : Option (Sto) :=
  if 8 ≤ v1 then (some σ) else (inb v1 8 (loopK (fun q nx191 => F_X12_laysBalances_B191 N nx176 nx191 v1 q.1 q.2) N (0, (upI σ 112 v1 0))))
def F_X12_laysBalances_J174 (N : Nat)   (σ : Sto) : Option (Sto) :=
  loopK (fun q nx176 => F_X12_laysBalances_B176 N  nx176  q.1 q.2) N (0, σ)
def F_X12_laysBalances_B98 (N : Nat) (nx98 : (Int × Sto) → Option (Sto))  (v1 : Int) (σ : Sto) : Option (Sto) :=
  (F_X12_of N 0 σ).bind (fun q8 => if q8 ≤ v1 then (F_X12_laysBalances_J174 N   σ) else ((F_X12_of N (ja (ja 1 (jm 3 v1)) 1) σ).bind (fun q10 => (F_X12_memberOf N q10 σ).bind (fun q11 => (F_X12_of N (ja 1 (jm 3 v1)) σ).bind (fun q12 => (F_X12_memberOf N q12 σ).bind (fun q13 => inb (ja (jm 8 q11) q13) 64 ((F_X12_of N (ja 1 (jm 3 v1)) σ).bind (fun q15 => (F_X12_of N (ja (ja 1 (jm 3 v1)) 1) σ).bind (fun q16 => (F_X12_of N (ja (ja 1 (jm 3 v1)) 2) σ).bind (fun q17 => (F_X12_paid N q15 q16 q17 σ).bind (fun q18 => nx98 ((ja v1 1), (upI σ 111 (ja (jm 8 q11) q13) (ja (σ.1 111 (ja (jm 8 q11) q13)) q18))))))))))))))
def F_X12_laysBalances_J96 (N : Nat)   (σ : Sto) : Option (Sto) :=
  loopK (fun q nx98 => F_X12_laysBalances_B98 N  nx98  q.1 q.2) N (0, σ)
def F_X12_laysBalances_J90 (N : Nat) (nx28 : (Int × Sto) → Option (Sto)) (v1 : Int) (σ : Sto) : Option (Sto) :=
  nx28 ((ja v1 1), σ)
def F_X12_laysBalances_B28 (N : Nat) (nx28 : (Int × Sto) → Option (Sto))  (v1 : Int) (σ : Sto) : Option (Sto) :=
  if 144 ≤ v1 then (F_X12_laysBalances_J96 N   σ) else (inb v1 144 (if (σ.1 107 v1) ≤ 0 then (F_X12_laysBalances_J90 N nx28 v1 σ) else ((F_X12_memberOf N (jrem v1 12) σ).bind (fun q22 => (F_X12_memberOf N (jdiv v1 12) σ).bind (fun q23 => inb (ja (jm 8 q22) q23) 64 ((F_X12_paid N (jdiv v1 12) (jrem v1 12) (σ.1 107 v1) σ).bind (fun q25 => F_X12_laysBalances_J90 N nx28 v1 (upI σ 111 (ja (jm 8 q22) q23) (ja (σ.1 111 (ja (jm 8 q22) q23)) q25)))))))))
def F_X12_laysBalances_J26 (N : Nat)   (σ : Sto) : Option (Sto) :=
  loopK (fun q nx28 => F_X12_laysBalances_B28 N  nx28  q.1 q.2) N (0, σ)
def F_X12_laysBalances_B7 (N : Nat) (nx7 : (Int × Sto) → Option (Sto))  (v1 : Int) (σ : Sto) : Option (Sto) :=
  if 64 ≤ v1 then (F_X12_laysBalances_J26 N   σ) else (inb v1 64 (nx7 ((ja v1 1), (upI σ 111 v1 0))))
def F_X12_laysBalances (N : Nat)  (σ : Sto) : Option (Sto) :=
  (F_X12_solves N σ).bind (fun q1 => loopK (fun q nx7 => F_X12_laysBalances_B7 N  nx7  q.1 q.2) N (0, q1.2))
set_option maxHeartbeats 4000000 in
set_option maxRecDepth 100000 in
theorem c_X12_laysBalances (l : Launch) (g : Geo) (N : Nat)  (σ : Sto) (res : Sto)  (ok : OK σ) (hF : F_X12_laysBalances N  σ = some res) : MtV l g yX12_laysBalances cX12_laysBalances 3 none rm_X12_laysBalances [vr g 94] σ res := by
  intro sz
  refine Met.ofAt (own := RX12) (QQ := fun z => QV g z res) (by decide +kernel) (Nat.le_of_ble_eq_true rfl) rfl ?_
  intro p e s m args below meth c C hr hlk
  show At p l e rm_X12_laysBalances s m args below meth c 0 0 g 3 (MQ below (QV g s.heap.size res) args s 0 0 (AA g s.heap.size)) 0 [(0, vr g 94)] [] σ
  unfold F_X12_laysBalances at hF
  refine at_aload_n (pc := 0) C 0 dX12_laysBalances_0 rfl rfl ?_
  obtain ⟨q1, eq1, hF⟩ := bind_some' hF
  refine at_callV (pc := 1) (ci := 12) C (c_X12_solves l g N  σ q1  ok eq1) kv_X12_solves w1683 kd94 rfl rfl rfl rfl (Nat.le_of_ble_eq_true rfl) ⟨rfl, rfl, (Nat.le_of_ble_eq_true rfl), (Nat.le_of_ble_eq_true rfl)⟩ dX12_laysBalances_1 (fun tq1 okq1 => ?_)
  refine at_pop (pc := 4) C dX12_laysBalances_4 rfl ?_
  refine at_iconst (pc := 5) C dX12_laysBalances_5 ?_
  refine at_istore_n (pc := 6) (lv' := [(1, vi 0), (0, vr g 94)]) C dX12_laysBalances_6 rfl (Nat.le_of_ble_eq_true rfl) rfl ?_
  have L7 : ∀ (v1 : Int) (σ : Sto), inR v1 → OK σ → loopK (fun q nx7 => F_X12_laysBalances_B7 N  nx7  q.1 q.2) N (v1, σ) = some res → At p l e rm_X12_laysBalances s m args below meth c 0 0 g 3 (MQ below (QV g s.heap.size res) args s 0 0 (AA g s.heap.size)) 7 [(0, vr g 94), (1, vi v1)] [] σ := by
    intro v1 σ h1 ok hF
    refine loopK_ind (res := res) (P := fun (q : Int × Sto) => inR q.1 → OK q.2 → At p l e rm_X12_laysBalances s m args below meth c 0 0 g 3 (MQ below (QV g s.heap.size res) args s 0 0 (AA g s.heap.size)) 7 [(0, vr g 94), (1, vi q.1)] [] q.2) ?_ N _ hF h1 ok
    intro nx7 q ih7 hF
    obtain ⟨v1, σ⟩ := q
    intro h1 ok
    have hF : F_X12_laysBalances_B7 N  nx7  v1 σ = some res := hF
    unfold F_X12_laysBalances_B7 at hF
    have J26 : ∀  (σ : Sto), OK σ → F_X12_laysBalances_J26 N   σ = some res → At p l e rm_X12_laysBalances s m args below meth c 0 0 g 3 (MQ below (QV g s.heap.size res) args s 0 0 (AA g s.heap.size)) 26 [(0, vr g 94)] [] σ := by
      intro σ ok hF
      unfold F_X12_laysBalances_J26 at hF
      refine at_iconst (pc := 26) C dX12_laysBalances_26 ?_
      refine at_istore_n (pc := 27) (lv' := [(1, vi 0), (0, vr g 94)]) C dX12_laysBalances_27 rfl (Nat.le_of_ble_eq_true rfl) rfl ?_
      have L28 : ∀ (v1 : Int) (σ : Sto), inR v1 → OK σ → loopK (fun q nx28 => F_X12_laysBalances_B28 N  nx28  q.1 q.2) N (v1, σ) = some res → At p l e rm_X12_laysBalances s m args below meth c 0 0 g 3 (MQ below (QV g s.heap.size res) args s 0 0 (AA g s.heap.size)) 28 [(0, vr g 94), (1, vi v1)] [] σ := by
        intro v1 σ h1 ok hF
        refine loopK_ind (res := res) (P := fun (q : Int × Sto) => inR q.1 → OK q.2 → At p l e rm_X12_laysBalances s m args below meth c 0 0 g 3 (MQ below (QV g s.heap.size res) args s 0 0 (AA g s.heap.size)) 28 [(0, vr g 94), (1, vi q.1)] [] q.2) ?_ N _ hF h1 ok
        intro nx28 q ih28 hF
        obtain ⟨v1, σ⟩ := q
        intro h1 ok
        have hF : F_X12_laysBalances_B28 N  nx28  v1 σ = some res := hF
        unfold F_X12_laysBalances_B28 at hF
        have J96 : ∀  (σ : Sto), OK σ → F_X12_laysBalances_J96 N   σ = some res → At p l e rm_X12_laysBalances s m args below meth c 0 0 g 3 (MQ below (QV g s.heap.size res) args s 0 0 (AA g s.heap.size)) 96 [(0, vr g 94)] [] σ := by
          intro σ ok hF
          unfold F_X12_laysBalances_J96 at hF
          refine at_iconst (pc := 96) C dX12_laysBalances_96 ?_
          refine at_istore_n (pc := 97) (lv' := [(1, vi 0), (0, vr g 94)]) C dX12_laysBalances_97 rfl (Nat.le_of_ble_eq_true rfl) rfl ?_
          have L98 : ∀ (v1 : Int) (σ : Sto), inR v1 → OK σ → loopK (fun q nx98 => F_X12_laysBalances_B98 N  nx98  q.1 q.2) N (v1, σ) = some res → At p l e rm_X12_laysBalances s m args below meth c 0 0 g 3 (MQ below (QV g s.heap.size res) args s 0 0 (AA g s.heap.size)) 98 [(0, vr g 94), (1, vi v1)] [] σ := by
            intro v1 σ h1 ok hF
            refine loopK_ind (res := res) (P := fun (q : Int × Sto) => inR q.1 → OK q.2 → At p l e rm_X12_laysBalances s m args below meth c 0 0 g 3 (MQ below (QV g s.heap.size res) args s 0 0 (AA g s.heap.size)) 98 [(0, vr g 94), (1, vi q.1)] [] q.2) ?_ N _ hF h1 ok
            intro nx98 q ih98 hF
            obtain ⟨v1, σ⟩ := q
            intro h1 ok
            have hF : F_X12_laysBalances_B98 N  nx98  v1 σ = some res := hF
            unfold F_X12_laysBalances_B98 at hF
            have J174 : ∀  (σ : Sto), OK σ → F_X12_laysBalances_J174 N   σ = some res → At p l e rm_X12_laysBalances s m args below meth c 0 0 g 3 (MQ below (QV g s.heap.size res) args s 0 0 (AA g s.heap.size)) 174 [(0, vr g 94)] [] σ := by
              intro σ ok hF
              unfold F_X12_laysBalances_J174 at hF
              refine at_iconst (pc := 174) C dX12_laysBalances_174 ?_
              refine at_istore_n (pc := 175) (lv' := [(1, vi 0), (0, vr g 94)]) C dX12_laysBalances_175 rfl (Nat.le_of_ble_eq_true rfl) rfl ?_
              have L176 : ∀ (v1 : Int) (σ : Sto), inR v1 → OK σ → loopK (fun q nx176 => F_X12_laysBalances_B176 N  nx176  q.1 q.2) N (v1, σ) = some res → At p l e rm_X12_laysBalances s m args below meth c 0 0 g 3 (MQ below (QV g s.heap.size res) args s 0 0 (AA g s.heap.size)) 176 [(0, vr g 94), (1, vi v1)] [] σ := by
                intro v1 σ h1 ok hF
                refine loopK_ind (res := res) (P := fun (q : Int × Sto) => inR q.1 → OK q.2 → At p l e rm_X12_laysBalances s m args below meth c 0 0 g 3 (MQ below (QV g s.heap.size res) args s 0 0 (AA g s.heap.size)) 176 [(0, vr g 94), (1, vi q.1)] [] q.2) ?_ N _ hF h1 ok
                intro nx176 q ih176 hF
                obtain ⟨v1, σ⟩ := q
                intro h1 ok
                have hF : F_X12_laysBalances_B176 N  nx176  v1 σ = some res := hF
                unfold F_X12_laysBalances_B176 at hF
                refine at_iload_n (pc := 176) C 1 dX12_laysBalances_176 rfl rfl ?_
                refine at_bipush (pc := 177) C dX12_laysBalances_177 (by decide) ?_
                refine at_icmp_ge (pc := 179) (tgt := 241) C h1 (show inR 8 from ⟨by decide, by decide⟩) dX12_laysBalances_179 rfl (fun c2 => ?_) (fun c2 => ?_)
                · have hF := (if_pos c2).symm.trans hF
                  obtain rfl := Option.some.inj hF
                  exact at_vret (pc := 241) C hr hlk ok dX12_laysBalances_241
                · have hF := (if_neg c2).symm.trans hF
                  refine at_aload_n (pc := 182) C 0 dX12_laysBalances_182 rfl rfl ?_
                  refine at_getr (pc := 183) (k' := 112) C 18 fw_12_72 kd94 rfl (Nat.le_of_ble_eq_true rfl) rfl rfl dX12_laysBalances_183 ?_
                  refine at_iload_n (pc := 186) C 1 dX12_laysBalances_186 rfl rfl ?_
                  refine at_iconst (pc := 187) C dX12_laysBalances_187 ?_
                  obtain ⟨b3, hF⟩ := inb_some hF
                  refine at_iastore (pc := 188) C kd112 b3 dX12_laysBalances_188 ?_
                  refine at_iconst (pc := 189) C dX12_laysBalances_189 ?_
                  refine at_istore_n (pc := 190) (lv' := [(2, vi 0), (0, vr g 94), (1, vi v1)]) C dX12_laysBalances_190 rfl (Nat.le_of_ble_eq_true rfl) rfl ?_
                  have L191 : ∀ (v1 : Int) (v2 : Int) (σ : Sto), inR v1 → inR v2 → OK σ → loopK (fun q nx191 => F_X12_laysBalances_B191 N nx176 nx191 v1 q.1 q.2) N (v2, σ) = some res → At p l e rm_X12_laysBalances s m args below meth c 0 0 g 3 (MQ below (QV g s.heap.size res) args s 0 0 (AA g s.heap.size)) 191 [(0, vr g 94), (1, vi v1), (2, vi v2)] [] σ := by
                    intro v1 v2 σ h1 h2 ok hF
                    refine loopK_ind (res := res) (P := fun (q : Int × Sto) => inR q.1 → OK q.2 → At p l e rm_X12_laysBalances s m args below meth c 0 0 g 3 (MQ below (QV g s.heap.size res) args s 0 0 (AA g s.heap.size)) 191 [(0, vr g 94), (1, vi v1), (2, vi q.1)] [] q.2) ?_ N _ hF h2 ok
                    intro nx191 q ih191 hF
                    obtain ⟨v2, σ⟩ := q
                    intro h2 ok
                    have hF : F_X12_laysBalances_B191 N nx176 nx191 v1 v2 σ = some res := hF
                    unfold F_X12_laysBalances_B191 at hF
                    have J235 : ∀ (v1 : Int) (σ : Sto), inR v1 → OK σ → F_X12_laysBalances_J235 N nx176 v1 σ = some res → At p l e rm_X12_laysBalances s m args below meth c 0 0 g 3 (MQ below (QV g s.heap.size res) args s 0 0 (AA g s.heap.size)) 235 [(0, vr g 94), (1, vi v1)] [] σ := by
                      intro v1 σ h1 ok hF
                      unfold F_X12_laysBalances_J235 at hF
                      refine at_iinc (pc := 235) (lv' := [(1, vi (ja v1 1)), (0, vr g 94)]) C 1 dX12_laysBalances_235 rfl (Nat.le_of_ble_eq_true rfl) rfl ?_
                      refine at_goto (pc := 238) (tgt := 176) C dX12_laysBalances_238 rfl ?_
                      refine at_sub (lv' := [(0, vr g 94), (1, vi (ja v1 1))]) [1, 0] rfl ?_
                      exact ih176 _ hF (ja_R v1 1) ok
                    refine at_iload_n (pc := 191) C 2 dX12_laysBalances_191 rfl rfl ?_
                    refine at_bipush (pc := 192) C dX12_laysBalances_192 (by decide) ?_
                    refine at_icmp_ge (pc := 194) (tgt := 235) C h2 (show inR 8 from ⟨by decide, by decide⟩) dX12_laysBalances_194 rfl (fun c4 => ?_) (fun c4 => ?_)
                    · have hF := (if_pos c4).symm.trans hF
                      refine at_sub (lv' := [(0, vr g 94), (1, vi v1)]) [0, 1] rfl ?_
                      exact J235 v1 σ h1 ok hF
                    · have hF := (if_neg c4).symm.trans hF
                      refine at_aload_n (pc := 197) C 0 dX12_laysBalances_197 rfl rfl ?_
                      refine at_getr (pc := 198) (k' := 112) C 18 fw_12_72 kd94 rfl (Nat.le_of_ble_eq_true rfl) rfl rfl dX12_laysBalances_198 ?_
                      refine at_iload_n (pc := 201) C 1 dX12_laysBalances_201 rfl rfl ?_
                      refine at_dup2 (pc := 202) C dX12_laysBalances_202 rfl rfl ?_
                      obtain ⟨b5, hF⟩ := inb_some hF
                      refine at_iaload (pc := 203) C kd112 b5 dX12_laysBalances_203 ?_
                      refine at_aload_n (pc := 204) C 0 dX12_laysBalances_204 rfl rfl ?_
                      refine at_getr (pc := 205) (k' := 111) C 17 fw_12_69 kd94 rfl (Nat.le_of_ble_eq_true rfl) rfl rfl dX12_laysBalances_205 ?_
                      refine at_bipush (pc := 208) C dX12_laysBalances_208 (by decide) ?_
                      refine at_iload_n (pc := 210) C 2 dX12_laysBalances_210 rfl rfl ?_
                      refine at_imul (pc := 211) C dX12_laysBalances_211 ?_
                      refine at_iload_n (pc := 212) C 1 dX12_laysBalances_212 rfl rfl ?_
                      refine at_iadd (pc := 213) C dX12_laysBalances_213 ?_
                      obtain ⟨b6, hF⟩ := inb_some hF
                      refine at_iaload (pc := 214) C kd111 b6 dX12_laysBalances_214 ?_
                      refine at_aload_n (pc := 215) C 0 dX12_laysBalances_215 rfl rfl ?_
                      refine at_getr (pc := 216) (k' := 111) C 17 fw_12_69 kd94 rfl (Nat.le_of_ble_eq_true rfl) rfl rfl dX12_laysBalances_216 ?_
                      refine at_bipush (pc := 219) C dX12_laysBalances_219 (by decide) ?_
                      refine at_iload_n (pc := 221) C 1 dX12_laysBalances_221 rfl rfl ?_
                      refine at_imul (pc := 222) C dX12_laysBalances_222 ?_
                      refine at_iload_n (pc := 223) C 2 dX12_laysBalances_223 rfl rfl ?_
                      refine at_iadd (pc := 224) C dX12_laysBalances_224 ?_
                      obtain ⟨b7, hF⟩ := inb_some hF
                      refine at_iaload (pc := 225) C kd111 b7 dX12_laysBalances_225 ?_
                      refine at_isub (pc := 226) C dX12_laysBalances_226 ?_
                      refine at_iadd (pc := 227) C dX12_laysBalances_227 ?_
                      refine at_iastore (pc := 228) C kd112 b5 dX12_laysBalances_228 ?_
                      refine at_iinc (pc := 229) (lv' := [(2, vi (ja v2 1)), (0, vr g 94), (1, vi v1)]) C 2 dX12_laysBalances_229 rfl (Nat.le_of_ble_eq_true rfl) rfl ?_
                      refine at_goto (pc := 232) (tgt := 191) C dX12_laysBalances_232 rfl ?_
                      refine at_sub (lv' := [(0, vr g 94), (1, vi v1), (2, vi (ja v2 1))]) [1, 2, 0] rfl ?_
                      exact ih191 _ hF (ja_R v2 1) (OK_up (k := 112) (j := v1) ok (ja_R (σ.1 112 v1) (js (σ.1 111 (ja (jm 8 v2) v1)) (σ.1 111 (ja (jm 8 v1) v2)))))
                  refine at_sub (lv' := [(0, vr g 94), (1, vi v1), (2, vi 0)]) [1, 2, 0] rfl ?_
                  exact L191 v1 0 (upI σ 112 v1 0) h1 (isB.r (Or.inl rfl)) (OK_up (k := 112) (j := v1) ok (isB.r (Or.inl rfl))) hF
              refine at_sub (lv' := [(0, vr g 94), (1, vi 0)]) [1, 0] rfl ?_
              exact L176 0 σ (isB.r (Or.inl rfl)) ok hF
            refine at_iload_n (pc := 98) C 1 dX12_laysBalances_98 rfl rfl ?_
            refine at_aload_n (pc := 99) C 0 dX12_laysBalances_99 rfl rfl ?_
            refine at_iconst (pc := 100) C dX12_laysBalances_100 ?_
            obtain ⟨q8, eq8, hF⟩ := bind_some' hF
            refine at_callV (pc := 101) (ci := 12) C (c_X12_of l g N 0 σ q8 (isB.r (Or.inl rfl)) ok eq8) kv_X12_of w1565 kd94 rfl rfl rfl rfl (Nat.le_of_ble_eq_true rfl) ⟨rfl, rfl, (Nat.le_of_ble_eq_true rfl), (Nat.le_of_ble_eq_true rfl)⟩ dX12_laysBalances_101 (fun tq8 okq8 => ?_)
            refine at_icmp_ge (pc := 104) (tgt := 174) C h1 tq8 dX12_laysBalances_104 rfl (fun c9 => ?_) (fun c9 => ?_)
            · have hF := (if_pos c9).symm.trans hF
              refine at_sub (lv' := [(0, vr g 94)]) [0] rfl ?_
              exact J174 σ ok hF
            · have hF := (if_neg c9).symm.trans hF
              refine at_iconst (pc := 107) C dX12_laysBalances_107 ?_
              refine at_iconst (pc := 108) C dX12_laysBalances_108 ?_
              refine at_iload_n (pc := 109) C 1 dX12_laysBalances_109 rfl rfl ?_
              refine at_imul (pc := 110) C dX12_laysBalances_110 ?_
              refine at_iadd (pc := 111) C dX12_laysBalances_111 ?_
              refine at_istore_n (pc := 112) (lv' := [(2, vi (ja 1 (jm 3 v1))), (0, vr g 94), (1, vi v1)]) C dX12_laysBalances_112 rfl (Nat.le_of_ble_eq_true rfl) rfl ?_
              refine at_aload_n (pc := 113) C 1 dX12_laysBalances_113 rfl rfl ?_
              refine at_getr (pc := 114) (k' := 111) C 17 fw_12_69 kd94 rfl (Nat.le_of_ble_eq_true rfl) rfl rfl dX12_laysBalances_114 ?_
              refine at_bipush (pc := 117) C dX12_laysBalances_117 (by decide) ?_
              refine at_aload_n (pc := 119) C 1 dX12_laysBalances_119 rfl rfl ?_
              refine at_aload_n (pc := 120) C 1 dX12_laysBalances_120 rfl rfl ?_
              refine at_iload_n (pc := 121) C 0 dX12_laysBalances_121 rfl rfl ?_
              refine at_iconst (pc := 122) C dX12_laysBalances_122 ?_
              refine at_iadd (pc := 123) C dX12_laysBalances_123 ?_
              obtain ⟨q10, eq10, hF⟩ := bind_some' hF
              refine at_callV (pc := 124) (ci := 12) C (c_X12_of l g N (ja (ja 1 (jm 3 v1)) 1) σ q10 (ja_R (ja 1 (jm 3 v1)) 1) ok eq10) kv_X12_of w1565 kd94 rfl rfl rfl rfl (Nat.le_of_ble_eq_true rfl) ⟨rfl, rfl, (Nat.le_of_ble_eq_true rfl), (Nat.le_of_ble_eq_true rfl)⟩ dX12_laysBalances_124 (fun tq10 okq10 => ?_)
              obtain ⟨q11, eq11, hF⟩ := bind_some' hF
              refine at_callV (pc := 127) (ci := 12) C (c_X12_memberOf l g N q10 σ q11 tq10 ok eq11) kv_X12_memberOf w1593 kd94 rfl rfl rfl rfl (Nat.le_of_ble_eq_true rfl) ⟨rfl, rfl, (Nat.le_of_ble_eq_true rfl), (Nat.le_of_ble_eq_true rfl)⟩ dX12_laysBalances_127 (fun tq11 okq11 => ?_)
              refine at_imul (pc := 130) C dX12_laysBalances_130 ?_
              refine at_aload_n (pc := 131) C 1 dX12_laysBalances_131 rfl rfl ?_
              refine at_aload_n (pc := 132) C 1 dX12_laysBalances_132 rfl rfl ?_
              refine at_iload_n (pc := 133) C 0 dX12_laysBalances_133 rfl rfl ?_
              obtain ⟨q12, eq12, hF⟩ := bind_some' hF
              refine at_callV (pc := 134) (ci := 12) C (c_X12_of l g N (ja 1 (jm 3 v1)) σ q12 (ja_R 1 (jm 3 v1)) ok eq12) kv_X12_of w1565 kd94 rfl rfl rfl rfl (Nat.le_of_ble_eq_true rfl) ⟨rfl, rfl, (Nat.le_of_ble_eq_true rfl), (Nat.le_of_ble_eq_true rfl)⟩ dX12_laysBalances_134 (fun tq12 okq12 => ?_)
              obtain ⟨q13, eq13, hF⟩ := bind_some' hF
              refine at_callV (pc := 137) (ci := 12) C (c_X12_memberOf l g N q12 σ q13 tq12 ok eq13) kv_X12_memberOf w1593 kd94 rfl rfl rfl rfl (Nat.le_of_ble_eq_true rfl) ⟨rfl, rfl, (Nat.le_of_ble_eq_true rfl), (Nat.le_of_ble_eq_true rfl)⟩ dX12_laysBalances_137 (fun tq13 okq13 => ?_)
              refine at_iadd (pc := 140) C dX12_laysBalances_140 ?_
              refine at_dup2 (pc := 141) C dX12_laysBalances_141 rfl rfl ?_
              obtain ⟨b14, hF⟩ := inb_some hF
              refine at_iaload (pc := 142) C kd111 b14 dX12_laysBalances_142 ?_
              refine at_aload_n (pc := 143) C 1 dX12_laysBalances_143 rfl rfl ?_
              refine at_aload_n (pc := 144) C 1 dX12_laysBalances_144 rfl rfl ?_
              refine at_iload_n (pc := 145) C 0 dX12_laysBalances_145 rfl rfl ?_
              obtain ⟨q15, eq15, hF⟩ := bind_some' hF
              refine at_callV (pc := 146) (ci := 12) C (c_X12_of l g N (ja 1 (jm 3 v1)) σ q15 (ja_R 1 (jm 3 v1)) ok eq15) kv_X12_of w1565 kd94 rfl rfl rfl rfl (Nat.le_of_ble_eq_true rfl) ⟨rfl, rfl, (Nat.le_of_ble_eq_true rfl), (Nat.le_of_ble_eq_true rfl)⟩ dX12_laysBalances_146 (fun tq15 okq15 => ?_)
              refine at_aload_n (pc := 149) C 1 dX12_laysBalances_149 rfl rfl ?_
              refine at_iload_n (pc := 150) C 0 dX12_laysBalances_150 rfl rfl ?_
              refine at_iconst (pc := 151) C dX12_laysBalances_151 ?_
              refine at_iadd (pc := 152) C dX12_laysBalances_152 ?_
              obtain ⟨q16, eq16, hF⟩ := bind_some' hF
              refine at_callV (pc := 153) (ci := 12) C (c_X12_of l g N (ja (ja 1 (jm 3 v1)) 1) σ q16 (ja_R (ja 1 (jm 3 v1)) 1) ok eq16) kv_X12_of w1565 kd94 rfl rfl rfl rfl (Nat.le_of_ble_eq_true rfl) ⟨rfl, rfl, (Nat.le_of_ble_eq_true rfl), (Nat.le_of_ble_eq_true rfl)⟩ dX12_laysBalances_153 (fun tq16 okq16 => ?_)
              refine at_aload_n (pc := 156) C 1 dX12_laysBalances_156 rfl rfl ?_
              refine at_iload_n (pc := 157) C 0 dX12_laysBalances_157 rfl rfl ?_
              refine at_iconst (pc := 158) C dX12_laysBalances_158 ?_
              refine at_iadd (pc := 159) C dX12_laysBalances_159 ?_
              obtain ⟨q17, eq17, hF⟩ := bind_some' hF
              refine at_callV (pc := 160) (ci := 12) C (c_X12_of l g N (ja (ja 1 (jm 3 v1)) 2) σ q17 (ja_R (ja 1 (jm 3 v1)) 2) ok eq17) kv_X12_of w1565 kd94 rfl rfl rfl rfl (Nat.le_of_ble_eq_true rfl) ⟨rfl, rfl, (Nat.le_of_ble_eq_true rfl), (Nat.le_of_ble_eq_true rfl)⟩ dX12_laysBalances_160 (fun tq17 okq17 => ?_)
              obtain ⟨q18, eq18, hF⟩ := bind_some' hF
              refine at_callV (pc := 163) (ci := 12) C (c_X12_paid l g N q15 q16 q17 σ q18 tq15 tq16 tq17 ok eq18) kv_X12_paid w1674 kd94 rfl rfl rfl rfl (Nat.le_of_ble_eq_true rfl) ⟨rfl, rfl, (Nat.le_of_ble_eq_true rfl), (Nat.le_of_ble_eq_true rfl)⟩ dX12_laysBalances_163 (fun tq18 okq18 => ?_)
              refine at_iadd (pc := 166) C dX12_laysBalances_166 ?_
              refine at_iastore (pc := 167) C kd111 b14 dX12_laysBalances_167 ?_
              refine at_iinc (pc := 168) (lv' := [(1, vi (ja v1 1)), (2, vi (ja 1 (jm 3 v1))), (0, vr g 94)]) C 2 dX12_laysBalances_168 rfl (Nat.le_of_ble_eq_true rfl) rfl ?_
              refine at_goto (pc := 171) (tgt := 98) C dX12_laysBalances_171 rfl ?_
              refine at_sub (lv' := [(0, vr g 94), (1, vi (ja v1 1))]) [2, 0] rfl ?_
              exact ih98 _ hF (ja_R v1 1) (OK_up (k := 111) (j := (ja (jm 8 q11) q13)) ok (ja_R (σ.1 111 (ja (jm 8 q11) q13)) q18))
          refine at_sub (lv' := [(0, vr g 94), (1, vi 0)]) [1, 0] rfl ?_
          exact L98 0 σ (isB.r (Or.inl rfl)) ok hF
        refine at_iload_n (pc := 28) C 1 dX12_laysBalances_28 rfl rfl ?_
        refine at_sipush (pc := 29) C dX12_laysBalances_29 (by decide) ?_
        refine at_icmp_ge (pc := 32) (tgt := 96) C h1 (show inR 144 from ⟨by decide, by decide⟩) dX12_laysBalances_32 rfl (fun c19 => ?_) (fun c19 => ?_)
        · have hF := (if_pos c19).symm.trans hF
          refine at_sub (lv' := [(0, vr g 94)]) [0] rfl ?_
          exact J96 σ ok hF
        · have hF := (if_neg c19).symm.trans hF
          have J90 : ∀ (v1 : Int) (σ : Sto), inR v1 → OK σ → F_X12_laysBalances_J90 N nx28 v1 σ = some res → At p l e rm_X12_laysBalances s m args below meth c 0 0 g 3 (MQ below (QV g s.heap.size res) args s 0 0 (AA g s.heap.size)) 90 [(0, vr g 94), (1, vi v1)] [] σ := by
            intro v1 σ h1 ok hF
            unfold F_X12_laysBalances_J90 at hF
            refine at_iinc (pc := 90) (lv' := [(1, vi (ja v1 1)), (0, vr g 94)]) C 1 dX12_laysBalances_90 rfl (Nat.le_of_ble_eq_true rfl) rfl ?_
            refine at_goto (pc := 93) (tgt := 28) C dX12_laysBalances_93 rfl ?_
            refine at_sub (lv' := [(0, vr g 94), (1, vi (ja v1 1))]) [1, 0] rfl ?_
            exact ih28 _ hF (ja_R v1 1) ok
          refine at_aload_n (pc := 35) C 0 dX12_laysBalances_35 rfl rfl ?_
          refine at_getr (pc := 36) (k' := 107) C 13 fw_12_54 kd94 rfl (Nat.le_of_ble_eq_true rfl) rfl rfl dX12_laysBalances_36 ?_
          refine at_iload_n (pc := 39) C 1 dX12_laysBalances_39 rfl rfl ?_
          obtain ⟨b20, hF⟩ := inb_some hF
          refine at_iaload (pc := 40) C kd107 b20 dX12_laysBalances_40 ?_
          refine at_if_le (pc := 41) (tgt := 90) C (ok 107 v1) dX12_laysBalances_41 rfl (fun c21 => ?_) (fun c21 => ?_)
          · have hF := (if_pos c21).symm.trans hF
            exact J90 v1 σ h1 ok hF
          · have hF := (if_neg c21).symm.trans hF
            refine at_aload_n (pc := 44) C 0 dX12_laysBalances_44 rfl rfl ?_
            refine at_getr (pc := 45) (k' := 111) C 17 fw_12_69 kd94 rfl (Nat.le_of_ble_eq_true rfl) rfl rfl dX12_laysBalances_45 ?_
            refine at_bipush (pc := 48) C dX12_laysBalances_48 (by decide) ?_
            refine at_aload_n (pc := 50) C 0 dX12_laysBalances_50 rfl rfl ?_
            refine at_iload_n (pc := 51) C 1 dX12_laysBalances_51 rfl rfl ?_
            refine at_bipush (pc := 52) C dX12_laysBalances_52 (by decide) ?_
            refine at_irem (pc := 54) C dX12_laysBalances_54 (show inR 12 from ⟨by decide, by decide⟩) (by decide) ?_
            obtain ⟨q22, eq22, hF⟩ := bind_some' hF
            refine at_callV (pc := 55) (ci := 12) C (c_X12_memberOf l g N (jrem v1 12) σ q22 (jrem_R v1 12) ok eq22) kv_X12_memberOf w1593 kd94 rfl rfl rfl rfl (Nat.le_of_ble_eq_true rfl) ⟨rfl, rfl, (Nat.le_of_ble_eq_true rfl), (Nat.le_of_ble_eq_true rfl)⟩ dX12_laysBalances_55 (fun tq22 okq22 => ?_)
            refine at_imul (pc := 58) C dX12_laysBalances_58 ?_
            refine at_aload_n (pc := 59) C 0 dX12_laysBalances_59 rfl rfl ?_
            refine at_iload_n (pc := 60) C 1 dX12_laysBalances_60 rfl rfl ?_
            refine at_bipush (pc := 61) C dX12_laysBalances_61 (by decide) ?_
            refine at_idiv (pc := 63) C dX12_laysBalances_63 (show inR 12 from ⟨by decide, by decide⟩) (by decide) ?_
            obtain ⟨q23, eq23, hF⟩ := bind_some' hF
            refine at_callV (pc := 64) (ci := 12) C (c_X12_memberOf l g N (jdiv v1 12) σ q23 (jdiv_R v1 12) ok eq23) kv_X12_memberOf w1593 kd94 rfl rfl rfl rfl (Nat.le_of_ble_eq_true rfl) ⟨rfl, rfl, (Nat.le_of_ble_eq_true rfl), (Nat.le_of_ble_eq_true rfl)⟩ dX12_laysBalances_64 (fun tq23 okq23 => ?_)
            refine at_iadd (pc := 67) C dX12_laysBalances_67 ?_
            refine at_dup2 (pc := 68) C dX12_laysBalances_68 rfl rfl ?_
            obtain ⟨b24, hF⟩ := inb_some hF
            refine at_iaload (pc := 69) C kd111 b24 dX12_laysBalances_69 ?_
            refine at_aload_n (pc := 70) C 0 dX12_laysBalances_70 rfl rfl ?_
            refine at_iload_n (pc := 71) C 1 dX12_laysBalances_71 rfl rfl ?_
            refine at_bipush (pc := 72) C dX12_laysBalances_72 (by decide) ?_
            refine at_idiv (pc := 74) C dX12_laysBalances_74 (show inR 12 from ⟨by decide, by decide⟩) (by decide) ?_
            refine at_iload_n (pc := 75) C 1 dX12_laysBalances_75 rfl rfl ?_
            refine at_bipush (pc := 76) C dX12_laysBalances_76 (by decide) ?_
            refine at_irem (pc := 78) C dX12_laysBalances_78 (show inR 12 from ⟨by decide, by decide⟩) (by decide) ?_
            refine at_aload_n (pc := 79) C 0 dX12_laysBalances_79 rfl rfl ?_
            refine at_getr (pc := 80) (k' := 107) C 13 fw_12_54 kd94 rfl (Nat.le_of_ble_eq_true rfl) rfl rfl dX12_laysBalances_80 ?_
            refine at_iload_n (pc := 83) C 1 dX12_laysBalances_83 rfl rfl ?_
            refine at_iaload (pc := 84) C kd107 b20 dX12_laysBalances_84 ?_
            obtain ⟨q25, eq25, hF⟩ := bind_some' hF
            refine at_callV (pc := 85) (ci := 12) C (c_X12_paid l g N (jdiv v1 12) (jrem v1 12) (σ.1 107 v1) σ q25 (jdiv_R v1 12) (jrem_R v1 12) (ok 107 v1) ok eq25) kv_X12_paid w1674 kd94 rfl rfl rfl rfl (Nat.le_of_ble_eq_true rfl) ⟨rfl, rfl, (Nat.le_of_ble_eq_true rfl), (Nat.le_of_ble_eq_true rfl)⟩ dX12_laysBalances_85 (fun tq25 okq25 => ?_)
            refine at_iadd (pc := 88) C dX12_laysBalances_88 ?_
            refine at_iastore (pc := 89) C kd111 b24 dX12_laysBalances_89 ?_
            exact J90 v1 (upI σ 111 (ja (jm 8 q22) q23) (ja (σ.1 111 (ja (jm 8 q22) q23)) q25)) h1 (OK_up (k := 111) (j := (ja (jm 8 q22) q23)) ok (ja_R (σ.1 111 (ja (jm 8 q22) q23)) q25)) hF
      refine at_sub (lv' := [(0, vr g 94), (1, vi 0)]) [1, 0] rfl ?_
      exact L28 0 σ (isB.r (Or.inl rfl)) ok hF
    refine at_iload_n (pc := 7) C 1 dX12_laysBalances_7 rfl rfl ?_
    refine at_bipush (pc := 8) C dX12_laysBalances_8 (by decide) ?_
    refine at_icmp_ge (pc := 10) (tgt := 26) C h1 (show inR 64 from ⟨by decide, by decide⟩) dX12_laysBalances_10 rfl (fun c26 => ?_) (fun c26 => ?_)
    · have hF := (if_pos c26).symm.trans hF
      refine at_sub (lv' := [(0, vr g 94)]) [0] rfl ?_
      exact J26 σ ok hF
    · have hF := (if_neg c26).symm.trans hF
      refine at_aload_n (pc := 13) C 0 dX12_laysBalances_13 rfl rfl ?_
      refine at_getr (pc := 14) (k' := 111) C 17 fw_12_69 kd94 rfl (Nat.le_of_ble_eq_true rfl) rfl rfl dX12_laysBalances_14 ?_
      refine at_iload_n (pc := 17) C 1 dX12_laysBalances_17 rfl rfl ?_
      refine at_iconst (pc := 18) C dX12_laysBalances_18 ?_
      obtain ⟨b27, hF⟩ := inb_some hF
      refine at_iastore (pc := 19) C kd111 b27 dX12_laysBalances_19 ?_
      refine at_iinc (pc := 20) (lv' := [(1, vi (ja v1 1)), (0, vr g 94)]) C 1 dX12_laysBalances_20 rfl (Nat.le_of_ble_eq_true rfl) rfl ?_
      refine at_goto (pc := 23) (tgt := 7) C dX12_laysBalances_23 rfl ?_
      refine at_sub (lv' := [(0, vr g 94), (1, vi (ja v1 1))]) [1, 0] rfl ?_
      exact ih7 _ hF (ja_R v1 1) (OK_up (k := 111) (j := v1) ok (isB.r (Or.inl rfl)))
  refine at_sub (lv' := [(0, vr g 94), (1, vi 0)]) [1, 0] rfl ?_
  exact L7 0 q1.2 (isB.r (Or.inl rfl)) okq1 hF
abbrev rm_X12_balance : Room := { frames := 7, cells := 0, slots := 0, locals := 164 }
def F_X12_balance (N : Nat) (v1 : Int) (σ : Sto) : Option (Int × Sto) :=
  (F_X12_isMember N v1 (upI σ 94 2 0)).bind (fun q1 => if q1 = 0 then (some ((-9999999), (upI σ 94 2 0))) else ((F_X12_laysBalances N (upI σ 94 2 0)).bind (fun q3 => inb v1 8 (some ((q3.1 112 v1), q3)))))
set_option maxHeartbeats 4000000 in
set_option maxRecDepth 100000 in
theorem c_X12_balance (l : Launch) (g : Geo) (N : Nat) (v1 : Int) (σ : Sto) (res : Int × Sto) (h1 : inR v1) (ok : OK σ) (hF : F_X12_balance N v1 σ = some res) : MtI l g yX12_balance cX12_balance 2 (some .int) rm_X12_balance [vr g 94, vi v1] σ res.1 res.2 inR := by
  intro sz
  refine Met.ofAt (own := RX12) (QQ := fun z => QI g z res.1 res.2 inR) (by decide +kernel) (Nat.le_of_ble_eq_true rfl) rfl ?_
  intro p e s m args below meth c C hr hlk
  show At p l e rm_X12_balance s m args below meth c 0 0 g 2 (MQ below (QI g s.heap.size res.1 res.2 inR) args s 0 0 (AA g s.heap.size)) 0 [(0, vr g 94), (1, vi v1)] [] σ
  unfold F_X12_balance at hF
  refine at_aload_n (pc := 0) C 0 dX12_balance_0 rfl rfl ?_
  refine at_iconst (pc := 1) C dX12_balance_1 ?_
  refine at_puti (pc := 2) (jz := 2) C fu_12_81 kd94 rfl (Nat.le_of_ble_eq_true rfl) rfl rfl dX12_balance_2 ?_
  refine at_aload_n (pc := 5) C 0 dX12_balance_5 rfl rfl ?_
  refine at_iload_n (pc := 6) C 1 dX12_balance_6 rfl rfl ?_
  obtain ⟨q1, eq1, hF⟩ := bind_some' hF
  refine at_callV (pc := 7) (ci := 12) C (c_X12_isMember l g N v1 (upI σ 94 2 0) q1 h1 (OK_up (k := 94) (j := 2) ok (isB.r (Or.inl rfl))) eq1) kv_X12_isMember w1727 kd94 rfl rfl rfl rfl (Nat.le_of_ble_eq_true rfl) ⟨rfl, rfl, (Nat.le_of_ble_eq_true rfl), (Nat.le_of_ble_eq_true rfl)⟩ dX12_balance_7 (fun tq1 okq1 => ?_)
  refine at_if_ne (pc := 10) (tgt := 17) C (isB.r tq1) dX12_balance_10 rfl (fun c2 => ?_) (fun c2 => ?_)
  · have hF := (if_neg c2).symm.trans hF
    refine at_aload_n (pc := 17) C 0 dX12_balance_17 rfl rfl ?_
    obtain ⟨q3, eq3, hF⟩ := bind_some' hF
    refine at_callVv (pc := 18) (ci := 12) C (c_X12_laysBalances l g N  (upI σ 94 2 0) q3  (OK_up (k := 94) (j := 2) ok (isB.r (Or.inl rfl))) eq3) kv_X12_laysBalances w1837 kd94 rfl rfl rfl rfl (Nat.le_of_ble_eq_true rfl) ⟨rfl, rfl, (Nat.le_of_ble_eq_true rfl), (Nat.le_of_ble_eq_true rfl)⟩ dX12_balance_18 (fun okq3 => ?_)
    refine at_aload_n (pc := 21) C 0 dX12_balance_21 rfl rfl ?_
    refine at_getr (pc := 22) (k' := 112) C 18 fw_12_72 kd94 rfl (Nat.le_of_ble_eq_true rfl) rfl rfl dX12_balance_22 ?_
    refine at_iload_n (pc := 25) C 1 dX12_balance_25 rfl rfl ?_
    obtain ⟨b4, hF⟩ := inb_some hF
    refine at_iaload (pc := 26) C kd112 b4 dX12_balance_26 ?_
    obtain rfl := Option.some.inj hF
    exact at_iret (pc := 27) C hr hlk (okq3 112 v1) okq3 dX12_balance_27
  · have hF := (if_pos c2).symm.trans hF
    refine at_ldc_w (pc := 13) (n := (-9999999)) C dX12_balance_13 w1836 ?_
    obtain rfl := Option.some.inj hF
    exact at_iret (pc := 16) C hr hlk (show inR (-9999999) from ⟨by decide, by decide⟩) (OK_up (k := 94) (j := 2) ok (isB.r (Or.inl rfl))) dX12_balance_16
abbrev rm_X12_owes : Room := { frames := 7, cells := 0, slots := 0, locals := 164 }
def F_X12_owes (N : Nat) (v1 : Int) (v2 : Int) (σ : Sto) : Option (Int × Sto) :=
  (F_X12_areMembers N v1 v2 (upI σ 94 2 0)).bind (fun q1 => if q1 = 0 then (some ((-9999999), (upI σ 94 2 0))) else (if v1 = v2 then (some ((-9999999), (upI σ 94 2 0))) else ((F_X12_laysBalances N (upI σ 94 2 0)).bind (fun q4 => inb (ja (jm 8 v1) v2) 64 (inb (ja (jm 8 v2) v1) 64 (some ((js (q4.1 111 (ja (jm 8 v1) v2)) (q4.1 111 (ja (jm 8 v2) v1))), q4)))))))
set_option maxHeartbeats 4000000 in
set_option maxRecDepth 100000 in
theorem c_X12_owes (l : Launch) (g : Geo) (N : Nat) (v1 : Int) (v2 : Int) (σ : Sto) (res : Int × Sto) (h1 : inR v1) (h2 : inR v2) (ok : OK σ) (hF : F_X12_owes N v1 v2 σ = some res) : MtI l g yX12_owes cX12_owes 3 (some .int) rm_X12_owes [vr g 94, vi v1, vi v2] σ res.1 res.2 inR := by
  intro sz
  refine Met.ofAt (own := RX12) (QQ := fun z => QI g z res.1 res.2 inR) (by decide +kernel) (Nat.le_of_ble_eq_true rfl) rfl ?_
  intro p e s m args below meth c C hr hlk
  show At p l e rm_X12_owes s m args below meth c 0 0 g 3 (MQ below (QI g s.heap.size res.1 res.2 inR) args s 0 0 (AA g s.heap.size)) 0 [(0, vr g 94), (1, vi v1), (2, vi v2)] [] σ
  unfold F_X12_owes at hF
  refine at_aload_n (pc := 0) C 0 dX12_owes_0 rfl rfl ?_
  refine at_iconst (pc := 1) C dX12_owes_1 ?_
  refine at_puti (pc := 2) (jz := 2) C fu_12_81 kd94 rfl (Nat.le_of_ble_eq_true rfl) rfl rfl dX12_owes_2 ?_
  refine at_aload_n (pc := 5) C 0 dX12_owes_5 rfl rfl ?_
  refine at_iload_n (pc := 6) C 1 dX12_owes_6 rfl rfl ?_
  refine at_iload_n (pc := 7) C 2 dX12_owes_7 rfl rfl ?_
  obtain ⟨q1, eq1, hF⟩ := bind_some' hF
  refine at_callV (pc := 8) (ci := 12) C (c_X12_areMembers l g N v1 v2 (upI σ 94 2 0) q1 h1 h2 (OK_up (k := 94) (j := 2) ok (isB.r (Or.inl rfl))) eq1) kv_X12_areMembers w1755 kd94 rfl rfl rfl rfl (Nat.le_of_ble_eq_true rfl) ⟨rfl, rfl, (Nat.le_of_ble_eq_true rfl), (Nat.le_of_ble_eq_true rfl)⟩ dX12_owes_8 (fun tq1 okq1 => ?_)
  refine at_if_eq (pc := 11) (tgt := 19) C (isB.r tq1) dX12_owes_11 rfl (fun c2 => ?_) (fun c2 => ?_)
  · have hF := (if_pos c2).symm.trans hF
    refine at_ldc_w (pc := 19) (n := (-9999999)) C dX12_owes_19 w1836 ?_
    obtain rfl := Option.some.inj hF
    exact at_iret (pc := 22) C hr hlk (show inR (-9999999) from ⟨by decide, by decide⟩) (OK_up (k := 94) (j := 2) ok (isB.r (Or.inl rfl))) dX12_owes_22
  · have hF := (if_neg c2).symm.trans hF
    refine at_iload_n (pc := 14) C 1 dX12_owes_14 rfl rfl ?_
    refine at_iload_n (pc := 15) C 2 dX12_owes_15 rfl rfl ?_
    refine at_icmp_ne (pc := 16) (tgt := 23) C h1 h2 dX12_owes_16 rfl (fun c3 => ?_) (fun c3 => ?_)
    · have hF := (if_neg c3).symm.trans hF
      refine at_aload_n (pc := 23) C 0 dX12_owes_23 rfl rfl ?_
      obtain ⟨q4, eq4, hF⟩ := bind_some' hF
      refine at_callVv (pc := 24) (ci := 12) C (c_X12_laysBalances l g N  (upI σ 94 2 0) q4  (OK_up (k := 94) (j := 2) ok (isB.r (Or.inl rfl))) eq4) kv_X12_laysBalances w1837 kd94 rfl rfl rfl rfl (Nat.le_of_ble_eq_true rfl) ⟨rfl, rfl, (Nat.le_of_ble_eq_true rfl), (Nat.le_of_ble_eq_true rfl)⟩ dX12_owes_24 (fun okq4 => ?_)
      refine at_aload_n (pc := 27) C 0 dX12_owes_27 rfl rfl ?_
      refine at_getr (pc := 28) (k' := 111) C 17 fw_12_69 kd94 rfl (Nat.le_of_ble_eq_true rfl) rfl rfl dX12_owes_28 ?_
      refine at_bipush (pc := 31) C dX12_owes_31 (by decide) ?_
      refine at_iload_n (pc := 33) C 1 dX12_owes_33 rfl rfl ?_
      refine at_imul (pc := 34) C dX12_owes_34 ?_
      refine at_iload_n (pc := 35) C 2 dX12_owes_35 rfl rfl ?_
      refine at_iadd (pc := 36) C dX12_owes_36 ?_
      obtain ⟨b5, hF⟩ := inb_some hF
      refine at_iaload (pc := 37) C kd111 b5 dX12_owes_37 ?_
      refine at_aload_n (pc := 38) C 0 dX12_owes_38 rfl rfl ?_
      refine at_getr (pc := 39) (k' := 111) C 17 fw_12_69 kd94 rfl (Nat.le_of_ble_eq_true rfl) rfl rfl dX12_owes_39 ?_
      refine at_bipush (pc := 42) C dX12_owes_42 (by decide) ?_
      refine at_iload_n (pc := 44) C 2 dX12_owes_44 rfl rfl ?_
      refine at_imul (pc := 45) C dX12_owes_45 ?_
      refine at_iload_n (pc := 46) C 1 dX12_owes_46 rfl rfl ?_
      refine at_iadd (pc := 47) C dX12_owes_47 ?_
      obtain ⟨b6, hF⟩ := inb_some hF
      refine at_iaload (pc := 48) C kd111 b6 dX12_owes_48 ?_
      refine at_isub (pc := 49) C dX12_owes_49 ?_
      obtain rfl := Option.some.inj hF
      exact at_iret (pc := 50) C hr hlk (js_R (q4.1 111 (ja (jm 8 v1) v2)) (q4.1 111 (ja (jm 8 v2) v1))) okq4 dX12_owes_50
    · have hF := (if_pos c3).symm.trans hF
      refine at_ldc_w (pc := 19) (n := (-9999999)) C dX12_owes_19 w1836 ?_
      obtain rfl := Option.some.inj hF
      exact at_iret (pc := 22) C hr hlk (show inR (-9999999) from ⟨by decide, by decide⟩) (OK_up (k := 94) (j := 2) ok (isB.r (Or.inl rfl))) dX12_owes_22
abbrev rm_X12_settlesOne : Room := { frames := 0, cells := 0, slots := 0, locals := 0 }
def F_X12_settlesOne_J138 (N : Nat)  (t1 : Int) (σ : Sto) : Option (Int × Sto) :=
  inb ((upI σ 94 46 t1).1 94 44) 8 (inb ((upI (upI σ 94 46 t1) 112 ((upI σ 94 46 t1).1 94 44) (ja ((upI σ 94 46 t1).1 112 ((upI σ 94 46 t1).1 94 44)) ((upI σ 94 46 t1).1 94 46))).1 94 45) 8 (some (1, (upI (upI (upI σ 94 46 t1) 112 ((upI σ 94 46 t1).1 94 44) (ja ((upI σ 94 46 t1).1 112 ((upI σ 94 46 t1).1 94 44)) ((upI σ 94 46 t1).1 94 46))) 112 ((upI (upI σ 94 46 t1) 112 ((upI σ 94 46 t1).1 94 44) (ja ((upI σ 94 46 t1).1 112 ((upI σ 94 46 t1).1 94 44)) ((upI σ 94 46 t1).1 94 46))).1 94 45) (js ((upI (upI σ 94 46 t1) 112 ((upI σ 94 46 t1).1 94 44) (ja ((upI σ 94 46 t1).1 112 ((upI σ 94 46 t1).1 94 44)) ((upI σ 94 46 t1).1 94 46))).1 112 ((upI (upI σ 94 46 t1) 112 ((upI σ 94 46 t1).1 94 44) (ja ((upI σ 94 46 t1).1 112 ((upI σ 94 46 t1).1 94 44)) ((upI σ 94 46 t1).1 94 46))).1 94 45)) ((upI (upI σ 94 46 t1) 112 ((upI σ 94 46 t1).1 94 44) (ja ((upI σ 94 46 t1).1 112 ((upI σ 94 46 t1).1 94 44)) ((upI σ 94 46 t1).1 94 46))).1 94 46))))))
def F_X12_settlesOne_J72 (N : Nat)   (σ : Sto) : Option (Int × Sto) :=
  if (σ.1 94 11) = 0 then (some (0, σ)) else (inb (σ.1 94 44) 8 (if (σ.1 112 (σ.1 94 44)) < 0 then (inb (σ.1 94 45) 8 (if (σ.1 112 (σ.1 94 45)) ≤ (jneg (σ.1 112 (σ.1 94 44))) then (F_X12_settlesOne_J138 N  (σ.1 112 (σ.1 94 45)) σ) else (F_X12_settlesOne_J138 N  (jneg (σ.1 112 (σ.1 94 44))) σ))) else (some (0, σ))))
def F_X12_settlesOne_J66 (N : Nat) (nx12 : (Int × Sto) → Option (Int × Sto)) (v1 : Int) (σ : Sto) : Option (Int × Sto) :=
  nx12 ((ja v1 1), σ)
def F_X12_settlesOne_J43 (N : Nat) (nx12 : (Int × Sto) → Option (Int × Sto)) (v1 : Int) (σ : Sto) : Option (Int × Sto) :=
  inb v1 8 (inb (σ.1 94 45) 8 (if (σ.1 112 v1) ≤ (σ.1 112 (σ.1 94 45)) then (F_X12_settlesOne_J66 N nx12 v1 σ) else (F_X12_settlesOne_J66 N nx12 v1 (upI σ 94 45 v1))))
def F_X12_settlesOne_B12 (N : Nat) (nx12 : (Int × Sto) → Option (Int × Sto))  (v1 : Int) (σ : Sto) : Option (Int × Sto) :=
  if (σ.1 94 11) ≤ v1 then (F_X12_settlesOne_J72 N   σ) else (inb v1 8 (inb (σ.1 94 44) 8 (if (σ.1 112 (σ.1 94 44)) ≤ (σ.1 112 v1) then (F_X12_settlesOne_J43 N nx12 v1 σ) else (F_X12_settlesOne_J43 N nx12 v1 (upI σ 94 44 v1)))))
def F_X12_settlesOne (N : Nat)  (σ : Sto) : Option (Int × Sto) :=
  loopK (fun q nx12 => F_X12_settlesOne_B12 N  nx12  q.1 q.2) N (1, (upI (upI σ 94 44 0) 94 45 0))
set_option maxHeartbeats 4000000 in
set_option maxRecDepth 100000 in
theorem c_X12_settlesOne (l : Launch) (g : Geo) (N : Nat)  (σ : Sto) (res : Int × Sto)  (ok : OK σ) (hF : F_X12_settlesOne N  σ = some res) : MtI l g yX12_settlesOne cX12_settlesOne 2 (some .boolean) rm_X12_settlesOne [vr g 94] σ res.1 res.2 isB := by
  intro sz
  refine Met.ofAt (own := RX12) (QQ := fun z => QI g z res.1 res.2 isB) (by decide +kernel) (Nat.le_of_ble_eq_true rfl) rfl ?_
  intro p e s m args below meth c C hr hlk
  show At p l e rm_X12_settlesOne s m args below meth c 0 0 g 2 (MQ below (QI g s.heap.size res.1 res.2 isB) args s 0 0 (AA g s.heap.size)) 0 [(0, vr g 94)] [] σ
  unfold F_X12_settlesOne at hF
  refine at_aload_n (pc := 0) C 0 dX12_settlesOne_0 rfl rfl ?_
  refine at_iconst (pc := 1) C dX12_settlesOne_1 ?_
  refine at_puti (pc := 2) (jz := 44) C fu_12_363 kd94 rfl (Nat.le_of_ble_eq_true rfl) rfl rfl dX12_settlesOne_2 ?_
  refine at_aload_n (pc := 5) C 0 dX12_settlesOne_5 rfl rfl ?_
  refine at_iconst (pc := 6) C dX12_settlesOne_6 ?_
  refine at_puti (pc := 7) (jz := 45) C fu_12_366 kd94 rfl (Nat.le_of_ble_eq_true rfl) rfl rfl dX12_settlesOne_7 ?_
  refine at_iconst (pc := 10) C dX12_settlesOne_10 ?_
  refine at_istore_n (pc := 11) (lv' := [(1, vi 1), (0, vr g 94)]) C dX12_settlesOne_11 rfl (Nat.le_of_ble_eq_true rfl) rfl ?_
  have L12 : ∀ (v1 : Int) (σ : Sto), inR v1 → OK σ → loopK (fun q nx12 => F_X12_settlesOne_B12 N  nx12  q.1 q.2) N (v1, σ) = some res → At p l e rm_X12_settlesOne s m args below meth c 0 0 g 2 (MQ below (QI g s.heap.size res.1 res.2 isB) args s 0 0 (AA g s.heap.size)) 12 [(0, vr g 94), (1, vi v1)] [] σ := by
    intro v1 σ h1 ok hF
    refine loopK_ind (res := res) (P := fun (q : Int × Sto) => inR q.1 → OK q.2 → At p l e rm_X12_settlesOne s m args below meth c 0 0 g 2 (MQ below (QI g s.heap.size res.1 res.2 isB) args s 0 0 (AA g s.heap.size)) 12 [(0, vr g 94), (1, vi q.1)] [] q.2) ?_ N _ hF h1 ok
    intro nx12 q ih12 hF
    obtain ⟨v1, σ⟩ := q
    intro h1 ok
    have hF : F_X12_settlesOne_B12 N  nx12  v1 σ = some res := hF
    unfold F_X12_settlesOne_B12 at hF
    have J72 : ∀  (σ : Sto), OK σ → F_X12_settlesOne_J72 N   σ = some res → At p l e rm_X12_settlesOne s m args below meth c 0 0 g 2 (MQ below (QI g s.heap.size res.1 res.2 isB) args s 0 0 (AA g s.heap.size)) 72 [(0, vr g 94)] [] σ := by
      intro σ ok hF
      unfold F_X12_settlesOne_J72 at hF
      refine at_aload_n (pc := 72) C 0 dX12_settlesOne_72 rfl rfl ?_
      refine at_geti (pc := 73) (jz := 11) C fw_12_132 kd94 rfl (Nat.le_of_ble_eq_true rfl) rfl rfl dX12_settlesOne_73 ?_
      refine at_if_eq (pc := 76) (tgt := 91) C (ok 94 11) dX12_settlesOne_76 rfl (fun c1 => ?_) (fun c1 => ?_)
      · have hF := (if_pos c1).symm.trans hF
        refine at_iconst (pc := 91) C dX12_settlesOne_91 ?_
        obtain rfl := Option.some.inj hF
        exact at_zret (pc := 92) C hr hlk (Or.inl rfl) ok dX12_settlesOne_92
      · have hF := (if_neg c1).symm.trans hF
        refine at_aload_n (pc := 79) C 0 dX12_settlesOne_79 rfl rfl ?_
        refine at_getr (pc := 80) (k' := 112) C 18 fw_12_72 kd94 rfl (Nat.le_of_ble_eq_true rfl) rfl rfl dX12_settlesOne_80 ?_
        refine at_aload_n (pc := 83) C 0 dX12_settlesOne_83 rfl rfl ?_
        refine at_geti (pc := 84) (jz := 44) C fw_12_363 kd94 rfl (Nat.le_of_ble_eq_true rfl) rfl rfl dX12_settlesOne_84 ?_
        obtain ⟨b2, hF⟩ := inb_some hF
        refine at_iaload (pc := 87) C kd112 b2 dX12_settlesOne_87 ?_
        refine at_if_lt (pc := 88) (tgt := 93) C (ok 112 (σ.1 94 44)) dX12_settlesOne_88 rfl (fun c3 => ?_) (fun c3 => ?_)
        · have hF := (if_pos c3).symm.trans hF
          have J138 : ∀ (t1 : Int) (σ : Sto), inR t1 → OK σ → F_X12_settlesOne_J138 N  t1 σ = some res → At p l e rm_X12_settlesOne s m args below meth c 0 0 g 2 (MQ below (QI g s.heap.size res.1 res.2 isB) args s 0 0 (AA g s.heap.size)) 138 [(0, vr g 94)] [vi t1, vr g 94] σ := by
            intro t1 σ ht1 ok hF
            unfold F_X12_settlesOne_J138 at hF
            refine at_puti (pc := 138) (jz := 46) C fu_12_369 kd94 rfl (Nat.le_of_ble_eq_true rfl) rfl rfl dX12_settlesOne_138 ?_
            refine at_aload_n (pc := 141) C 0 dX12_settlesOne_141 rfl rfl ?_
            refine at_getr (pc := 142) (k' := 112) C 18 fw_12_72 kd94 rfl (Nat.le_of_ble_eq_true rfl) rfl rfl dX12_settlesOne_142 ?_
            refine at_aload_n (pc := 145) C 0 dX12_settlesOne_145 rfl rfl ?_
            refine at_geti (pc := 146) (jz := 44) C fw_12_363 kd94 rfl (Nat.le_of_ble_eq_true rfl) rfl rfl dX12_settlesOne_146 ?_
            refine at_dup2 (pc := 149) C dX12_settlesOne_149 rfl rfl ?_
            obtain ⟨b4, hF⟩ := inb_some hF
            refine at_iaload (pc := 150) C kd112 b4 dX12_settlesOne_150 ?_
            refine at_aload_n (pc := 151) C 0 dX12_settlesOne_151 rfl rfl ?_
            refine at_geti (pc := 152) (jz := 46) C fw_12_369 kd94 rfl (Nat.le_of_ble_eq_true rfl) rfl rfl dX12_settlesOne_152 ?_
            refine at_iadd (pc := 155) C dX12_settlesOne_155 ?_
            refine at_iastore (pc := 156) C kd112 b4 dX12_settlesOne_156 ?_
            refine at_aload_n (pc := 157) C 0 dX12_settlesOne_157 rfl rfl ?_
            refine at_getr (pc := 158) (k' := 112) C 18 fw_12_72 kd94 rfl (Nat.le_of_ble_eq_true rfl) rfl rfl dX12_settlesOne_158 ?_
            refine at_aload_n (pc := 161) C 0 dX12_settlesOne_161 rfl rfl ?_
            refine at_geti (pc := 162) (jz := 45) C fw_12_366 kd94 rfl (Nat.le_of_ble_eq_true rfl) rfl rfl dX12_settlesOne_162 ?_
            refine at_dup2 (pc := 165) C dX12_settlesOne_165 rfl rfl ?_
            obtain ⟨b5, hF⟩ := inb_some hF
            refine at_iaload (pc := 166) C kd112 b5 dX12_settlesOne_166 ?_
            refine at_aload_n (pc := 167) C 0 dX12_settlesOne_167 rfl rfl ?_
            refine at_geti (pc := 168) (jz := 46) C fw_12_369 kd94 rfl (Nat.le_of_ble_eq_true rfl) rfl rfl dX12_settlesOne_168 ?_
            refine at_isub (pc := 171) C dX12_settlesOne_171 ?_
            refine at_iastore (pc := 172) C kd112 b5 dX12_settlesOne_172 ?_
            refine at_iconst (pc := 173) C dX12_settlesOne_173 ?_
            obtain rfl := Option.some.inj hF
            exact at_zret (pc := 174) C hr hlk (Or.inr rfl) (OK_up (k := 112) (j := ((upI (upI σ 94 46 t1) 112 ((upI σ 94 46 t1).1 94 44) (ja ((upI σ 94 46 t1).1 112 ((upI σ 94 46 t1).1 94 44)) ((upI σ 94 46 t1).1 94 46))).1 94 45)) (OK_up (k := 112) (j := ((upI σ 94 46 t1).1 94 44)) (OK_up (k := 94) (j := 46) ok ht1) (ja_R ((upI σ 94 46 t1).1 112 ((upI σ 94 46 t1).1 94 44)) ((upI σ 94 46 t1).1 94 46))) (js_R ((upI (upI σ 94 46 t1) 112 ((upI σ 94 46 t1).1 94 44) (ja ((upI σ 94 46 t1).1 112 ((upI σ 94 46 t1).1 94 44)) ((upI σ 94 46 t1).1 94 46))).1 112 ((upI (upI σ 94 46 t1) 112 ((upI σ 94 46 t1).1 94 44) (ja ((upI σ 94 46 t1).1 112 ((upI σ 94 46 t1).1 94 44)) ((upI σ 94 46 t1).1 94 46))).1 94 45)) ((upI (upI σ 94 46 t1) 112 ((upI σ 94 46 t1).1 94 44) (ja ((upI σ 94 46 t1).1 112 ((upI σ 94 46 t1).1 94 44)) ((upI σ 94 46 t1).1 94 46))).1 94 46))) dX12_settlesOne_174
          refine at_aload_n (pc := 93) C 0 dX12_settlesOne_93 rfl rfl ?_
          refine at_aload_n (pc := 94) C 0 dX12_settlesOne_94 rfl rfl ?_
          refine at_getr (pc := 95) (k' := 112) C 18 fw_12_72 kd94 rfl (Nat.le_of_ble_eq_true rfl) rfl rfl dX12_settlesOne_95 ?_
          refine at_aload_n (pc := 98) C 0 dX12_settlesOne_98 rfl rfl ?_
          refine at_geti (pc := 99) (jz := 44) C fw_12_363 kd94 rfl (Nat.le_of_ble_eq_true rfl) rfl rfl dX12_settlesOne_99 ?_
          refine at_iaload (pc := 102) C kd112 b2 dX12_settlesOne_102 ?_
          refine at_ineg (pc := 103) C dX12_settlesOne_103 ?_
          refine at_aload_n (pc := 104) C 0 dX12_settlesOne_104 rfl rfl ?_
          refine at_getr (pc := 105) (k' := 112) C 18 fw_12_72 kd94 rfl (Nat.le_of_ble_eq_true rfl) rfl rfl dX12_settlesOne_105 ?_
          refine at_aload_n (pc := 108) C 0 dX12_settlesOne_108 rfl rfl ?_
          refine at_geti (pc := 109) (jz := 45) C fw_12_366 kd94 rfl (Nat.le_of_ble_eq_true rfl) rfl rfl dX12_settlesOne_109 ?_
          obtain ⟨b6, hF⟩ := inb_some hF
          refine at_iaload (pc := 112) C kd112 b6 dX12_settlesOne_112 ?_
          refine at_icmp_ge (pc := 113) (tgt := 129) C (jneg_R (σ.1 112 (σ.1 94 44))) (ok 112 (σ.1 94 45)) dX12_settlesOne_113 rfl (fun c7 => ?_) (fun c7 => ?_)
          · have hF := (if_pos c7).symm.trans hF
            refine at_aload_n (pc := 129) C 0 dX12_settlesOne_129 rfl rfl ?_
            refine at_getr (pc := 130) (k' := 112) C 18 fw_12_72 kd94 rfl (Nat.le_of_ble_eq_true rfl) rfl rfl dX12_settlesOne_130 ?_
            refine at_aload_n (pc := 133) C 0 dX12_settlesOne_133 rfl rfl ?_
            refine at_geti (pc := 134) (jz := 45) C fw_12_366 kd94 rfl (Nat.le_of_ble_eq_true rfl) rfl rfl dX12_settlesOne_134 ?_
            refine at_iaload (pc := 137) C kd112 b6 dX12_settlesOne_137 ?_
            exact J138 (σ.1 112 (σ.1 94 45)) σ (ok 112 (σ.1 94 45)) ok hF
          · have hF := (if_neg c7).symm.trans hF
            refine at_aload_n (pc := 116) C 0 dX12_settlesOne_116 rfl rfl ?_
            refine at_getr (pc := 117) (k' := 112) C 18 fw_12_72 kd94 rfl (Nat.le_of_ble_eq_true rfl) rfl rfl dX12_settlesOne_117 ?_
            refine at_aload_n (pc := 120) C 0 dX12_settlesOne_120 rfl rfl ?_
            refine at_geti (pc := 121) (jz := 44) C fw_12_363 kd94 rfl (Nat.le_of_ble_eq_true rfl) rfl rfl dX12_settlesOne_121 ?_
            refine at_iaload (pc := 124) C kd112 b2 dX12_settlesOne_124 ?_
            refine at_ineg (pc := 125) C dX12_settlesOne_125 ?_
            refine at_goto (pc := 126) (tgt := 138) C dX12_settlesOne_126 rfl ?_
            exact J138 (jneg (σ.1 112 (σ.1 94 44))) σ (jneg_R (σ.1 112 (σ.1 94 44))) ok hF
        · have hF := (if_neg c3).symm.trans hF
          refine at_iconst (pc := 91) C dX12_settlesOne_91 ?_
          obtain rfl := Option.some.inj hF
          exact at_zret (pc := 92) C hr hlk (Or.inl rfl) ok dX12_settlesOne_92
    refine at_iload_n (pc := 12) C 1 dX12_settlesOne_12 rfl rfl ?_
    refine at_aload_n (pc := 13) C 0 dX12_settlesOne_13 rfl rfl ?_
    refine at_geti (pc := 14) (jz := 11) C fw_12_132 kd94 rfl (Nat.le_of_ble_eq_true rfl) rfl rfl dX12_settlesOne_14 ?_
    refine at_icmp_ge (pc := 17) (tgt := 72) C h1 (ok 94 11) dX12_settlesOne_17 rfl (fun c8 => ?_) (fun c8 => ?_)
    · have hF := (if_pos c8).symm.trans hF
      refine at_sub (lv' := [(0, vr g 94)]) [0] rfl ?_
      exact J72 σ ok hF
    · have hF := (if_neg c8).symm.trans hF
      have J43 : ∀ (v1 : Int) (σ : Sto), inR v1 → OK σ → F_X12_settlesOne_J43 N nx12 v1 σ = some res → At p l e rm_X12_settlesOne s m args below meth c 0 0 g 2 (MQ below (QI g s.heap.size res.1 res.2 isB) args s 0 0 (AA g s.heap.size)) 43 [(0, vr g 94), (1, vi v1)] [] σ := by
        intro v1 σ h1 ok hF
        unfold F_X12_settlesOne_J43 at hF
        have J66 : ∀ (v1 : Int) (σ : Sto), inR v1 → OK σ → F_X12_settlesOne_J66 N nx12 v1 σ = some res → At p l e rm_X12_settlesOne s m args below meth c 0 0 g 2 (MQ below (QI g s.heap.size res.1 res.2 isB) args s 0 0 (AA g s.heap.size)) 66 [(0, vr g 94), (1, vi v1)] [] σ := by
          intro v1 σ h1 ok hF
          unfold F_X12_settlesOne_J66 at hF
          refine at_iinc (pc := 66) (lv' := [(1, vi (ja v1 1)), (0, vr g 94)]) C 1 dX12_settlesOne_66 rfl (Nat.le_of_ble_eq_true rfl) rfl ?_
          refine at_goto (pc := 69) (tgt := 12) C dX12_settlesOne_69 rfl ?_
          refine at_sub (lv' := [(0, vr g 94), (1, vi (ja v1 1))]) [1, 0] rfl ?_
          exact ih12 _ hF (ja_R v1 1) ok
        refine at_aload_n (pc := 43) C 0 dX12_settlesOne_43 rfl rfl ?_
        refine at_getr (pc := 44) (k' := 112) C 18 fw_12_72 kd94 rfl (Nat.le_of_ble_eq_true rfl) rfl rfl dX12_settlesOne_44 ?_
        refine at_iload_n (pc := 47) C 1 dX12_settlesOne_47 rfl rfl ?_
        obtain ⟨b9, hF⟩ := inb_some hF
        refine at_iaload (pc := 48) C kd112 b9 dX12_settlesOne_48 ?_
        refine at_aload_n (pc := 49) C 0 dX12_settlesOne_49 rfl rfl ?_
        refine at_getr (pc := 50) (k' := 112) C 18 fw_12_72 kd94 rfl (Nat.le_of_ble_eq_true rfl) rfl rfl dX12_settlesOne_50 ?_
        refine at_aload_n (pc := 53) C 0 dX12_settlesOne_53 rfl rfl ?_
        refine at_geti (pc := 54) (jz := 45) C fw_12_366 kd94 rfl (Nat.le_of_ble_eq_true rfl) rfl rfl dX12_settlesOne_54 ?_
        obtain ⟨b10, hF⟩ := inb_some hF
        refine at_iaload (pc := 57) C kd112 b10 dX12_settlesOne_57 ?_
        refine at_icmp_le (pc := 58) (tgt := 66) C (ok 112 v1) (ok 112 (σ.1 94 45)) dX12_settlesOne_58 rfl (fun c11 => ?_) (fun c11 => ?_)
        · have hF := (if_pos c11).symm.trans hF
          exact J66 v1 σ h1 ok hF
        · have hF := (if_neg c11).symm.trans hF
          refine at_aload_n (pc := 61) C 0 dX12_settlesOne_61 rfl rfl ?_
          refine at_iload_n (pc := 62) C 1 dX12_settlesOne_62 rfl rfl ?_
          refine at_puti (pc := 63) (jz := 45) C fu_12_366 kd94 rfl (Nat.le_of_ble_eq_true rfl) rfl rfl dX12_settlesOne_63 ?_
          exact J66 v1 (upI σ 94 45 v1) h1 (OK_up (k := 94) (j := 45) ok h1) hF
      refine at_aload_n (pc := 20) C 0 dX12_settlesOne_20 rfl rfl ?_
      refine at_getr (pc := 21) (k' := 112) C 18 fw_12_72 kd94 rfl (Nat.le_of_ble_eq_true rfl) rfl rfl dX12_settlesOne_21 ?_
      refine at_iload_n (pc := 24) C 1 dX12_settlesOne_24 rfl rfl ?_
      obtain ⟨b12, hF⟩ := inb_some hF
      refine at_iaload (pc := 25) C kd112 b12 dX12_settlesOne_25 ?_
      refine at_aload_n (pc := 26) C 0 dX12_settlesOne_26 rfl rfl ?_
      refine at_getr (pc := 27) (k' := 112) C 18 fw_12_72 kd94 rfl (Nat.le_of_ble_eq_true rfl) rfl rfl dX12_settlesOne_27 ?_
      refine at_aload_n (pc := 30) C 0 dX12_settlesOne_30 rfl rfl ?_
      refine at_geti (pc := 31) (jz := 44) C fw_12_363 kd94 rfl (Nat.le_of_ble_eq_true rfl) rfl rfl dX12_settlesOne_31 ?_
      obtain ⟨b13, hF⟩ := inb_some hF
      refine at_iaload (pc := 34) C kd112 b13 dX12_settlesOne_34 ?_
      refine at_icmp_ge (pc := 35) (tgt := 43) C (ok 112 v1) (ok 112 (σ.1 94 44)) dX12_settlesOne_35 rfl (fun c14 => ?_) (fun c14 => ?_)
      · have hF := (if_pos c14).symm.trans hF
        exact J43 v1 σ h1 ok hF
      · have hF := (if_neg c14).symm.trans hF
        refine at_aload_n (pc := 38) C 0 dX12_settlesOne_38 rfl rfl ?_
        refine at_iload_n (pc := 39) C 1 dX12_settlesOne_39 rfl rfl ?_
        refine at_puti (pc := 40) (jz := 44) C fu_12_363 kd94 rfl (Nat.le_of_ble_eq_true rfl) rfl rfl dX12_settlesOne_40 ?_
        exact J43 v1 (upI σ 94 44 v1) h1 (OK_up (k := 94) (j := 44) ok h1) hF
  refine at_sub (lv' := [(0, vr g 94), (1, vi 1)]) [1, 0] rfl ?_
  exact L12 1 (upI (upI σ 94 44 0) 94 45 0) (isB.r (Or.inr rfl)) (OK_up (k := 94) (j := 45) (OK_up (k := 94) (j := 44) ok (isB.r (Or.inl rfl))) (isB.r (Or.inl rfl))) hF
abbrev rm_X12_settles : Room := { frames := 7, cells := 0, slots := 0, locals := 164 }
def F_X12_settles_B11 (N : Nat) (nx11 : (Int × Sto) → Option (Int × Sto))  (v1 : Int) (σ : Sto) : Option (Int × Sto) :=
  (F_X12_settlesOne N σ).bind (fun q2 => if q2.1 = 0 then (some (v1, q2.2)) else (nx11 ((ja v1 1), q2.2)))
def F_X12_settles (N : Nat)  (σ : Sto) : Option (Int × Sto) :=
  (F_X12_laysBalances N (upI σ 94 2 0)).bind (fun q1 => loopK (fun q nx11 => F_X12_settles_B11 N  nx11  q.1 q.2) N (0, q1))
set_option maxHeartbeats 4000000 in
set_option maxRecDepth 100000 in
theorem c_X12_settles (l : Launch) (g : Geo) (N : Nat)  (σ : Sto) (res : Int × Sto)  (ok : OK σ) (hF : F_X12_settles N  σ = some res) : MtI l g yX12_settles cX12_settles 2 (some .int) rm_X12_settles [vr g 94] σ res.1 res.2 inR := by
  intro sz
  refine Met.ofAt (own := RX12) (QQ := fun z => QI g z res.1 res.2 inR) (by decide +kernel) (Nat.le_of_ble_eq_true rfl) rfl ?_
  intro p e s m args below meth c C hr hlk
  show At p l e rm_X12_settles s m args below meth c 0 0 g 2 (MQ below (QI g s.heap.size res.1 res.2 inR) args s 0 0 (AA g s.heap.size)) 0 [(0, vr g 94)] [] σ
  unfold F_X12_settles at hF
  refine at_aload_n (pc := 0) C 0 dX12_settles_0 rfl rfl ?_
  refine at_iconst (pc := 1) C dX12_settles_1 ?_
  refine at_puti (pc := 2) (jz := 2) C fu_12_81 kd94 rfl (Nat.le_of_ble_eq_true rfl) rfl rfl dX12_settles_2 ?_
  refine at_aload_n (pc := 5) C 0 dX12_settles_5 rfl rfl ?_
  obtain ⟨q1, eq1, hF⟩ := bind_some' hF
  refine at_callVv (pc := 6) (ci := 12) C (c_X12_laysBalances l g N  (upI σ 94 2 0) q1  (OK_up (k := 94) (j := 2) ok (isB.r (Or.inl rfl))) eq1) kv_X12_laysBalances w1837 kd94 rfl rfl rfl rfl (Nat.le_of_ble_eq_true rfl) ⟨rfl, rfl, (Nat.le_of_ble_eq_true rfl), (Nat.le_of_ble_eq_true rfl)⟩ dX12_settles_6 (fun okq1 => ?_)
  refine at_iconst (pc := 9) C dX12_settles_9 ?_
  refine at_istore_n (pc := 10) (lv' := [(1, vi 0), (0, vr g 94)]) C dX12_settles_10 rfl (Nat.le_of_ble_eq_true rfl) rfl ?_
  have L11 : ∀ (v1 : Int) (σ : Sto), inR v1 → OK σ → loopK (fun q nx11 => F_X12_settles_B11 N  nx11  q.1 q.2) N (v1, σ) = some res → At p l e rm_X12_settles s m args below meth c 0 0 g 2 (MQ below (QI g s.heap.size res.1 res.2 inR) args s 0 0 (AA g s.heap.size)) 11 [(0, vr g 94), (1, vi v1)] [] σ := by
    intro v1 σ h1 ok hF
    refine loopK_ind (res := res) (P := fun (q : Int × Sto) => inR q.1 → OK q.2 → At p l e rm_X12_settles s m args below meth c 0 0 g 2 (MQ below (QI g s.heap.size res.1 res.2 inR) args s 0 0 (AA g s.heap.size)) 11 [(0, vr g 94), (1, vi q.1)] [] q.2) ?_ N _ hF h1 ok
    intro nx11 q ih11 hF
    obtain ⟨v1, σ⟩ := q
    intro h1 ok
    have hF : F_X12_settles_B11 N  nx11  v1 σ = some res := hF
    unfold F_X12_settles_B11 at hF
    refine at_aload_n (pc := 11) C 0 dX12_settles_11 rfl rfl ?_
    obtain ⟨q2, eq2, hF⟩ := bind_some' hF
    refine at_callV (pc := 12) (ci := 12) C (c_X12_settlesOne l g N  σ q2  ok eq2) kv_X12_settlesOne w1849 kd94 rfl rfl rfl rfl (Nat.le_of_ble_eq_true rfl) ⟨rfl, rfl, (Nat.le_of_ble_eq_true rfl), (Nat.le_of_ble_eq_true rfl)⟩ dX12_settles_12 (fun tq2 okq2 => ?_)
    refine at_if_eq (pc := 15) (tgt := 24) C (isB.r tq2) dX12_settles_15 rfl (fun c3 => ?_) (fun c3 => ?_)
    · have hF := (if_pos c3).symm.trans hF
      refine at_iload_n (pc := 24) C 1 dX12_settles_24 rfl rfl ?_
      obtain rfl := Option.some.inj hF
      exact at_iret (pc := 25) C hr hlk h1 okq2 dX12_settles_25
    · have hF := (if_neg c3).symm.trans hF
      refine at_iinc (pc := 18) (lv' := [(1, vi (ja v1 1)), (0, vr g 94)]) C 1 dX12_settles_18 rfl (Nat.le_of_ble_eq_true rfl) rfl ?_
      refine at_goto (pc := 21) (tgt := 11) C dX12_settles_21 rfl ?_
      refine at_sub (lv' := [(0, vr g 94), (1, vi (ja v1 1))]) [1, 0] rfl ?_
      exact ih11 _ hF (ja_R v1 1) okq2
  refine at_sub (lv' := [(0, vr g 94), (1, vi 0)]) [1, 0] rfl ?_
  exact L11 0 q1 (isB.r (Or.inl rfl)) okq1 hF
abbrev rm_X12_settling : Room := { frames := 7, cells := 0, slots := 0, locals := 164 }
def F_X12_settling_J47 (N : Nat)  (v2 : Int) (σ : Sto) : Option (Int × Sto) :=
  if v2 = 0 then (some ((σ.1 94 44), σ)) else (if v2 = 1 then (some ((σ.1 94 45), σ)) else (some ((σ.1 94 46), σ)))
def F_X12_settling_B26 (N : Nat) (nx26 : (Int × Sto) → Option (Int × Sto)) (v1 : Int) (v2 : Int) (v3 : Int) (σ : Sto) : Option (Int × Sto) :=
  if v1 < v3 then (F_X12_settling_J47 N  v2 σ) else ((F_X12_settlesOne N σ).bind (fun q8 => if q8.1 = 0 then (some ((-2), q8.2)) else (nx26 ((ja v3 1), q8.2))))
def F_X12_settling (N : Nat) (v1 : Int) (v2 : Int) (σ : Sto) : Option (Int × Sto) :=
  if v1 < 0 then (some ((-1), (upI σ 94 2 0))) else ((F_X12_isIn N v2 0 2 (upI σ 94 2 0)).bind (fun q2 => if q2 = 0 then (some ((-1), (upI σ 94 2 0))) else ((F_X12_laysBalances N (upI σ 94 2 0)).bind (fun q4 => loopK (fun q nx26 => F_X12_settling_B26 N  nx26 v1 v2 q.1 q.2) N (0, q4)))))
set_option maxHeartbeats 4000000 in
set_option maxRecDepth 100000 in
theorem c_X12_settling (l : Launch) (g : Geo) (N : Nat) (v1 : Int) (v2 : Int) (σ : Sto) (res : Int × Sto) (h1 : inR v1) (h2 : inR v2) (ok : OK σ) (hF : F_X12_settling N v1 v2 σ = some res) : MtI l g yX12_settling cX12_settling 4 (some .int) rm_X12_settling [vr g 94, vi v1, vi v2] σ res.1 res.2 inR := by
  intro sz
  refine Met.ofAt (own := RX12) (QQ := fun z => QI g z res.1 res.2 inR) (by decide +kernel) (Nat.le_of_ble_eq_true rfl) rfl ?_
  intro p e s m args below meth c C hr hlk
  show At p l e rm_X12_settling s m args below meth c 0 0 g 4 (MQ below (QI g s.heap.size res.1 res.2 inR) args s 0 0 (AA g s.heap.size)) 0 [(0, vr g 94), (1, vi v1), (2, vi v2)] [] σ
  unfold F_X12_settling at hF
  refine at_aload_n (pc := 0) C 0 dX12_settling_0 rfl rfl ?_
  refine at_iconst (pc := 1) C dX12_settling_1 ?_
  refine at_puti (pc := 2) (jz := 2) C fu_12_81 kd94 rfl (Nat.le_of_ble_eq_true rfl) rfl rfl dX12_settling_2 ?_
  refine at_iload_n (pc := 5) C 1 dX12_settling_5 rfl rfl ?_
  refine at_if_lt (pc := 6) (tgt := 18) C h1 dX12_settling_6 rfl (fun c1 => ?_) (fun c1 => ?_)
  · have hF := (if_pos c1).symm.trans hF
    refine at_iconst (pc := 18) C dX12_settling_18 ?_
    obtain rfl := Option.some.inj hF
    exact at_iret (pc := 19) C hr hlk (show inR (-1) from ⟨by decide, by decide⟩) (OK_up (k := 94) (j := 2) ok (isB.r (Or.inl rfl))) dX12_settling_19
  · have hF := (if_neg c1).symm.trans hF
    refine at_iload_n (pc := 9) C 2 dX12_settling_9 rfl rfl ?_
    refine at_iconst (pc := 10) C dX12_settling_10 ?_
    refine at_iconst (pc := 11) C dX12_settling_11 ?_
    obtain ⟨q2, eq2, hF⟩ := bind_some' hF
    refine at_callS (pc := 12) C (c_X12_isIn l g N v2 0 2 (upI σ 94 2 0) q2 h2 (isB.r (Or.inl rfl)) (show inR 2 from ⟨by decide, by decide⟩) (OK_up (k := 94) (j := 2) ok (isB.r (Or.inl rfl))) eq2) ks_X12_isIn w1525 rfl rfl (Nat.le_of_ble_eq_true rfl) ⟨rfl, rfl, (Nat.le_of_ble_eq_true rfl), (Nat.le_of_ble_eq_true rfl)⟩ dX12_settling_12 (fun tq2 okq2 => ?_)
    refine at_if_ne (pc := 15) (tgt := 20) C (isB.r tq2) dX12_settling_15 rfl (fun c3 => ?_) (fun c3 => ?_)
    · have hF := (if_neg c3).symm.trans hF
      refine at_aload_n (pc := 20) C 0 dX12_settling_20 rfl rfl ?_
      obtain ⟨q4, eq4, hF⟩ := bind_some' hF
      refine at_callVv (pc := 21) (ci := 12) C (c_X12_laysBalances l g N  (upI σ 94 2 0) q4  (OK_up (k := 94) (j := 2) ok (isB.r (Or.inl rfl))) eq4) kv_X12_laysBalances w1837 kd94 rfl rfl rfl rfl (Nat.le_of_ble_eq_true rfl) ⟨rfl, rfl, (Nat.le_of_ble_eq_true rfl), (Nat.le_of_ble_eq_true rfl)⟩ dX12_settling_21 (fun okq4 => ?_)
      refine at_iconst (pc := 24) C dX12_settling_24 ?_
      refine at_istore_n (pc := 25) (lv' := [(3, vi 0), (0, vr g 94), (1, vi v1), (2, vi v2)]) C dX12_settling_25 rfl (Nat.le_of_ble_eq_true rfl) rfl ?_
      have L26 : ∀ (v1 : Int) (v2 : Int) (v3 : Int) (σ : Sto), inR v1 → inR v2 → inR v3 → OK σ → loopK (fun q nx26 => F_X12_settling_B26 N  nx26 v1 v2 q.1 q.2) N (v3, σ) = some res → At p l e rm_X12_settling s m args below meth c 0 0 g 4 (MQ below (QI g s.heap.size res.1 res.2 inR) args s 0 0 (AA g s.heap.size)) 26 [(0, vr g 94), (1, vi v1), (2, vi v2), (3, vi v3)] [] σ := by
        intro v1 v2 v3 σ h1 h2 h3 ok hF
        refine loopK_ind (res := res) (P := fun (q : Int × Sto) => inR q.1 → OK q.2 → At p l e rm_X12_settling s m args below meth c 0 0 g 4 (MQ below (QI g s.heap.size res.1 res.2 inR) args s 0 0 (AA g s.heap.size)) 26 [(0, vr g 94), (1, vi v1), (2, vi v2), (3, vi q.1)] [] q.2) ?_ N _ hF h3 ok
        intro nx26 q ih26 hF
        obtain ⟨v3, σ⟩ := q
        intro h3 ok
        have hF : F_X12_settling_B26 N  nx26 v1 v2 v3 σ = some res := hF
        unfold F_X12_settling_B26 at hF
        have J47 : ∀ (v2 : Int) (σ : Sto), inR v2 → OK σ → F_X12_settling_J47 N  v2 σ = some res → At p l e rm_X12_settling s m args below meth c 0 0 g 4 (MQ below (QI g s.heap.size res.1 res.2 inR) args s 0 0 (AA g s.heap.size)) 47 [(0, vr g 94), (2, vi v2)] [] σ := by
          intro v2 σ h2 ok hF
          unfold F_X12_settling_J47 at hF
          refine at_iload_n (pc := 47) C 1 dX12_settling_47 rfl rfl ?_
          refine at_if_ne (pc := 48) (tgt := 58) C h2 dX12_settling_48 rfl (fun c5 => ?_) (fun c5 => ?_)
          · have hF := (if_neg c5).symm.trans hF
            refine at_iload_n (pc := 58) C 1 dX12_settling_58 rfl rfl ?_
            refine at_iconst (pc := 59) C dX12_settling_59 ?_
            refine at_icmp_ne (pc := 60) (tgt := 70) C h2 (isB.r (Or.inr rfl)) dX12_settling_60 rfl (fun c6 => ?_) (fun c6 => ?_)
            · have hF := (if_neg c6).symm.trans hF
              refine at_aload_n (pc := 70) C 0 dX12_settling_70 rfl rfl ?_
              refine at_geti (pc := 71) (jz := 46) C fw_12_369 kd94 rfl (Nat.le_of_ble_eq_true rfl) rfl rfl dX12_settling_71 ?_
              obtain rfl := Option.some.inj hF
              exact at_iret (pc := 74) C hr hlk (ok 94 46) ok dX12_settling_74
            · have hF := (if_pos c6).symm.trans hF
              refine at_aload_n (pc := 63) C 0 dX12_settling_63 rfl rfl ?_
              refine at_geti (pc := 64) (jz := 45) C fw_12_366 kd94 rfl (Nat.le_of_ble_eq_true rfl) rfl rfl dX12_settling_64 ?_
              refine at_goto (pc := 67) (tgt := 74) C dX12_settling_67 rfl ?_
              obtain rfl := Option.some.inj hF
              exact at_iret (pc := 74) C hr hlk (ok 94 45) ok dX12_settling_74
          · have hF := (if_pos c5).symm.trans hF
            refine at_aload_n (pc := 51) C 0 dX12_settling_51 rfl rfl ?_
            refine at_geti (pc := 52) (jz := 44) C fw_12_363 kd94 rfl (Nat.le_of_ble_eq_true rfl) rfl rfl dX12_settling_52 ?_
            refine at_goto (pc := 55) (tgt := 74) C dX12_settling_55 rfl ?_
            obtain rfl := Option.some.inj hF
            exact at_iret (pc := 74) C hr hlk (ok 94 44) ok dX12_settling_74
        refine at_iload_n (pc := 26) C 3 dX12_settling_26 rfl rfl ?_
        refine at_iload_n (pc := 27) C 1 dX12_settling_27 rfl rfl ?_
        refine at_icmp_gt (pc := 28) (tgt := 47) C h3 h1 dX12_settling_28 rfl (fun c7 => ?_) (fun c7 => ?_)
        · have hF := (if_pos c7).symm.trans hF
          refine at_sub (lv' := [(0, vr g 94), (2, vi v2)]) [0, 2] rfl ?_
          exact J47 v2 σ h2 ok hF
        · have hF := (if_neg c7).symm.trans hF
          refine at_aload_n (pc := 31) C 0 dX12_settling_31 rfl rfl ?_
          obtain ⟨q8, eq8, hF⟩ := bind_some' hF
          refine at_callV (pc := 32) (ci := 12) C (c_X12_settlesOne l g N  σ q8  ok eq8) kv_X12_settlesOne w1849 kd94 rfl rfl rfl rfl (Nat.le_of_ble_eq_true rfl) ⟨rfl, rfl, (Nat.le_of_ble_eq_true rfl), (Nat.le_of_ble_eq_true rfl)⟩ dX12_settling_32 (fun tq8 okq8 => ?_)
          refine at_if_ne (pc := 35) (tgt := 41) C (isB.r tq8) dX12_settling_35 rfl (fun c9 => ?_) (fun c9 => ?_)
          · have hF := (if_neg c9).symm.trans hF
            refine at_iinc (pc := 41) (lv' := [(3, vi (ja v3 1)), (0, vr g 94), (1, vi v1), (2, vi v2)]) C 3 dX12_settling_41 rfl (Nat.le_of_ble_eq_true rfl) rfl ?_
            refine at_goto (pc := 44) (tgt := 26) C dX12_settling_44 rfl ?_
            refine at_sub (lv' := [(0, vr g 94), (1, vi v1), (2, vi v2), (3, vi (ja v3 1))]) [1, 2, 3, 0] rfl ?_
            exact ih26 _ hF (ja_R v3 1) okq8
          · have hF := (if_pos c9).symm.trans hF
            refine at_bipush (pc := 38) C dX12_settling_38 (by decide) ?_
            obtain rfl := Option.some.inj hF
            exact at_iret (pc := 40) C hr hlk (show inR (-2) from ⟨by decide, by decide⟩) okq8 dX12_settling_40
      refine at_sub (lv' := [(0, vr g 94), (1, vi v1), (2, vi v2), (3, vi 0)]) [1, 2, 3, 0] rfl ?_
      exact L26 v1 v2 0 q4 h1 h2 (isB.r (Or.inl rfl)) okq4 hF
    · have hF := (if_pos c3).symm.trans hF
      refine at_iconst (pc := 18) C dX12_settling_18 ?_
      obtain rfl := Option.some.inj hF
      exact at_iret (pc := 19) C hr hlk (show inR (-1) from ⟨by decide, by decide⟩) (OK_up (k := 94) (j := 2) ok (isB.r (Or.inl rfl))) dX12_settling_19
abbrev rm_X12_tax : Room := { frames := 6, cells := 0, slots := 0, locals := 142 }
def F_X12_tax_J76 (N : Nat) (nx24 : (Int × Int) → Option (Int × Sto)) (v1 : Int) (v2 : Int) (v3 : Int) (σ : Sto) : Option (Int × Sto) :=
  nx24 (v2, (ja v3 1))
def F_X12_tax_B24 (N : Nat) (nx24 : (Int × Int) → Option (Int × Sto)) (v1 : Int) (v2 : Int) (v3 : Int) (σ : Sto) : Option (Int × Sto) :=
  if (σ.1 94 14) ≤ v3 then (some (v2, σ)) else ((F_X12_memberOf N v3 σ).bind (fun q5 => if q5 = v1 then ((F_X12_result N v3 σ).bind (fun q7 => if q7 ≤ 0 then (F_X12_tax_J76 N nx24 v1 v2 v3 σ) else (inb v3 12 (inb (ja (jm 3 v1) 2) 48 (F_X12_tax_J76 N nx24 v1 (ja v2 (jl2i (jld (jlm (σ.1 105 v3) (σ.1 97 (ja (jm 3 v1) 2))) 100))) v3 σ))))) else (F_X12_tax_J76 N nx24 v1 v2 v3 σ)))
def F_X12_tax (N : Nat) (v1 : Int) (σ : Sto) : Option (Int × Sto) :=
  (F_X12_isMember N v1 (upI σ 94 2 0)).bind (fun q1 => if q1 = 0 then (some ((-1), (upI σ 94 2 0))) else ((F_X12_solves N (upI σ 94 2 0)).bind (fun q3 => loopK (fun q nx24 => F_X12_tax_B24 N  nx24 v1 q.1 q.2 q3.2) N (0, 0))))
set_option maxHeartbeats 4000000 in
set_option maxRecDepth 100000 in
theorem c_X12_tax (l : Launch) (g : Geo) (N : Nat) (v1 : Int) (σ : Sto) (res : Int × Sto) (h1 : inR v1) (ok : OK σ) (hF : F_X12_tax N v1 σ = some res) : MtI l g yX12_tax cX12_tax 4 (some .int) rm_X12_tax [vr g 94, vi v1] σ res.1 res.2 inR := by
  intro sz
  refine Met.ofAt (own := RX12) (QQ := fun z => QI g z res.1 res.2 inR) (by decide +kernel) (Nat.le_of_ble_eq_true rfl) rfl ?_
  intro p e s m args below meth c C hr hlk
  show At p l e rm_X12_tax s m args below meth c 0 0 g 4 (MQ below (QI g s.heap.size res.1 res.2 inR) args s 0 0 (AA g s.heap.size)) 0 [(0, vr g 94), (1, vi v1)] [] σ
  unfold F_X12_tax at hF
  refine at_aload_n (pc := 0) C 0 dX12_tax_0 rfl rfl ?_
  refine at_iconst (pc := 1) C dX12_tax_1 ?_
  refine at_puti (pc := 2) (jz := 2) C fu_12_81 kd94 rfl (Nat.le_of_ble_eq_true rfl) rfl rfl dX12_tax_2 ?_
  refine at_aload_n (pc := 5) C 0 dX12_tax_5 rfl rfl ?_
  refine at_iload_n (pc := 6) C 1 dX12_tax_6 rfl rfl ?_
  obtain ⟨q1, eq1, hF⟩ := bind_some' hF
  refine at_callV (pc := 7) (ci := 12) C (c_X12_isMember l g N v1 (upI σ 94 2 0) q1 h1 (OK_up (k := 94) (j := 2) ok (isB.r (Or.inl rfl))) eq1) kv_X12_isMember w1727 kd94 rfl rfl rfl rfl (Nat.le_of_ble_eq_true rfl) ⟨rfl, rfl, (Nat.le_of_ble_eq_true rfl), (Nat.le_of_ble_eq_true rfl)⟩ dX12_tax_7 (fun tq1 okq1 => ?_)
  refine at_if_ne (pc := 10) (tgt := 15) C (isB.r tq1) dX12_tax_10 rfl (fun c2 => ?_) (fun c2 => ?_)
  · have hF := (if_neg c2).symm.trans hF
    refine at_aload_n (pc := 15) C 0 dX12_tax_15 rfl rfl ?_
    obtain ⟨q3, eq3, hF⟩ := bind_some' hF
    refine at_callV (pc := 16) (ci := 12) C (c_X12_solves l g N  (upI σ 94 2 0) q3  (OK_up (k := 94) (j := 2) ok (isB.r (Or.inl rfl))) eq3) kv_X12_solves w1683 kd94 rfl rfl rfl rfl (Nat.le_of_ble_eq_true rfl) ⟨rfl, rfl, (Nat.le_of_ble_eq_true rfl), (Nat.le_of_ble_eq_true rfl)⟩ dX12_tax_16 (fun tq3 okq3 => ?_)
    refine at_pop (pc := 19) C dX12_tax_19 rfl ?_
    refine at_iconst (pc := 20) C dX12_tax_20 ?_
    refine at_istore_n (pc := 21) (lv' := [(2, vi 0), (0, vr g 94), (1, vi v1)]) C dX12_tax_21 rfl (Nat.le_of_ble_eq_true rfl) rfl ?_
    refine at_iconst (pc := 22) C dX12_tax_22 ?_
    refine at_istore_n (pc := 23) (lv' := [(3, vi 0), (2, vi 0), (0, vr g 94), (1, vi v1)]) C dX12_tax_23 rfl (Nat.le_of_ble_eq_true rfl) rfl ?_
    have L24 : ∀ (v1 : Int) (v2 : Int) (v3 : Int) (σ : Sto), inR v1 → inR v2 → inR v3 → OK σ → loopK (fun q nx24 => F_X12_tax_B24 N  nx24 v1 q.1 q.2 σ) N (v2, v3) = some res → At p l e rm_X12_tax s m args below meth c 0 0 g 4 (MQ below (QI g s.heap.size res.1 res.2 inR) args s 0 0 (AA g s.heap.size)) 24 [(0, vr g 94), (1, vi v1), (2, vi v2), (3, vi v3)] [] σ := by
      intro v1 v2 v3 σ h1 h2 h3 ok hF
      refine loopK_ind (res := res) (P := fun (q : Int × Int) => inR q.1 → inR q.2 → At p l e rm_X12_tax s m args below meth c 0 0 g 4 (MQ below (QI g s.heap.size res.1 res.2 inR) args s 0 0 (AA g s.heap.size)) 24 [(0, vr g 94), (1, vi v1), (2, vi q.1), (3, vi q.2)] [] σ) ?_ N _ hF h2 h3
      intro nx24 q ih24 hF
      obtain ⟨v2, v3⟩ := q
      intro h2 h3
      have hF : F_X12_tax_B24 N  nx24 v1 v2 v3 σ = some res := hF
      unfold F_X12_tax_B24 at hF
      refine at_iload_n (pc := 24) C 3 dX12_tax_24 rfl rfl ?_
      refine at_aload_n (pc := 25) C 0 dX12_tax_25 rfl rfl ?_
      refine at_geti (pc := 26) (jz := 14) C fw_12_135 kd94 rfl (Nat.le_of_ble_eq_true rfl) rfl rfl dX12_tax_26 ?_
      refine at_icmp_ge (pc := 29) (tgt := 82) C h3 (ok 94 14) dX12_tax_29 rfl (fun c4 => ?_) (fun c4 => ?_)
      · have hF := (if_pos c4).symm.trans hF
        refine at_iload_n (pc := 82) C 2 dX12_tax_82 rfl rfl ?_
        obtain rfl := Option.some.inj hF
        exact at_iret (pc := 83) C hr hlk h2 ok dX12_tax_83
      · have hF := (if_neg c4).symm.trans hF
        have J76 : ∀ (v2 : Int) (v3 : Int), inR v2 → inR v3 → F_X12_tax_J76 N nx24 v1 v2 v3 σ = some res → At p l e rm_X12_tax s m args below meth c 0 0 g 4 (MQ below (QI g s.heap.size res.1 res.2 inR) args s 0 0 (AA g s.heap.size)) 76 [(0, vr g 94), (1, vi v1), (2, vi v2), (3, vi v3)] [] σ := by
          intro v2 v3 h2 h3 hF
          unfold F_X12_tax_J76 at hF
          refine at_iinc (pc := 76) (lv' := [(3, vi (ja v3 1)), (0, vr g 94), (1, vi v1), (2, vi v2)]) C 3 dX12_tax_76 rfl (Nat.le_of_ble_eq_true rfl) rfl ?_
          refine at_goto (pc := 79) (tgt := 24) C dX12_tax_79 rfl ?_
          refine at_sub (lv' := [(0, vr g 94), (1, vi v1), (2, vi v2), (3, vi (ja v3 1))]) [1, 2, 3, 0] rfl ?_
          exact ih24 _ hF h2 (ja_R v3 1)
        refine at_aload_n (pc := 32) C 0 dX12_tax_32 rfl rfl ?_
        refine at_iload_n (pc := 33) C 3 dX12_tax_33 rfl rfl ?_
        obtain ⟨q5, eq5, hF⟩ := bind_some' hF
        refine at_callV (pc := 34) (ci := 12) C (c_X12_memberOf l g N v3 σ q5 h3 ok eq5) kv_X12_memberOf w1593 kd94 rfl rfl rfl rfl (Nat.le_of_ble_eq_true rfl) ⟨rfl, rfl, (Nat.le_of_ble_eq_true rfl), (Nat.le_of_ble_eq_true rfl)⟩ dX12_tax_34 (fun tq5 okq5 => ?_)
        refine at_iload_n (pc := 37) C 1 dX12_tax_37 rfl rfl ?_
        refine at_icmp_ne (pc := 38) (tgt := 76) C tq5 h1 dX12_tax_38 rfl (fun c6 => ?_) (fun c6 => ?_)
        · have hF := (if_neg c6).symm.trans hF
          exact J76 v2 v3 h2 h3 hF
        · have hF := (if_pos c6).symm.trans hF
          refine at_aload_n (pc := 41) C 0 dX12_tax_41 rfl rfl ?_
          refine at_iload_n (pc := 42) C 3 dX12_tax_42 rfl rfl ?_
          obtain ⟨q7, eq7, hF⟩ := bind_some' hF
          refine at_callV (pc := 43) (ci := 12) C (c_X12_result l g N v3 σ q7 h3 ok eq7) kv_X12_result w1585 kd94 rfl rfl rfl rfl (Nat.le_of_ble_eq_true rfl) ⟨rfl, rfl, (Nat.le_of_ble_eq_true rfl), (Nat.le_of_ble_eq_true rfl)⟩ dX12_tax_43 (fun tq7 okq7 => ?_)
          refine at_if_le (pc := 46) (tgt := 76) C tq7 dX12_tax_46 rfl (fun c8 => ?_) (fun c8 => ?_)
          · have hF := (if_pos c8).symm.trans hF
            exact J76 v2 v3 h2 h3 hF
          · have hF := (if_neg c8).symm.trans hF
            refine at_iload_n (pc := 49) C 2 dX12_tax_49 rfl rfl ?_
            refine at_aload_n (pc := 50) C 0 dX12_tax_50 rfl rfl ?_
            refine at_getr (pc := 51) (k' := 105) C 11 fw_12_48 kd94 rfl (Nat.le_of_ble_eq_true rfl) rfl rfl dX12_tax_51 ?_
            refine at_iload_n (pc := 54) C 3 dX12_tax_54 rfl rfl ?_
            obtain ⟨b9, hF⟩ := inb_some hF
            refine at_iaload (pc := 55) C kd105 b9 dX12_tax_55 ?_
            refine at_i2l (pc := 56) C (ok 105 v3) dX12_tax_56 ?_
            refine at_aload_n (pc := 57) C 0 dX12_tax_57 rfl rfl ?_
            refine at_getr (pc := 58) (k' := 97) C 3 fw_12_20 kd94 rfl (Nat.le_of_ble_eq_true rfl) rfl rfl dX12_tax_58 ?_
            refine at_iconst (pc := 61) C dX12_tax_61 ?_
            refine at_iload_n (pc := 62) C 1 dX12_tax_62 rfl rfl ?_
            refine at_imul (pc := 63) C dX12_tax_63 ?_
            refine at_iconst (pc := 64) C dX12_tax_64 ?_
            refine at_iadd (pc := 65) C dX12_tax_65 ?_
            obtain ⟨b10, hF⟩ := inb_some hF
            refine at_iaload (pc := 66) C kd97 b10 dX12_tax_66 ?_
            refine at_i2l (pc := 67) C (ok 97 (ja (jm 3 v1) 2)) dX12_tax_67 ?_
            refine at_lmul (pc := 68) C dX12_tax_68 ?_
            refine at_ldc2l (pc := 69) (n := 100) C dX12_tax_69 w1678 ?_
            refine at_ldiv (pc := 72) C dX12_tax_72 (show inL 100 from ⟨by decide, by decide⟩) (by decide) ?_
            refine at_l2i (pc := 73) C dX12_tax_73 ?_
            refine at_iadd (pc := 74) C dX12_tax_74 ?_
            refine at_istore_n (pc := 75) (lv' := [(2, vi (ja v2 (jl2i (jld (jlm (σ.1 105 v3) (σ.1 97 (ja (jm 3 v1) 2))) 100)))), (0, vr g 94), (1, vi v1), (3, vi v3)]) C dX12_tax_75 rfl (Nat.le_of_ble_eq_true rfl) rfl ?_
            refine at_sub (lv' := [(0, vr g 94), (1, vi v1), (2, vi (ja v2 (jl2i (jld (jlm (σ.1 105 v3) (σ.1 97 (ja (jm 3 v1) 2))) 100)))), (3, vi v3)]) [1, 2, 0, 3] rfl ?_
            exact J76 (ja v2 (jl2i (jld (jlm (σ.1 105 v3) (σ.1 97 (ja (jm 3 v1) 2))) 100))) v3 (ja_R v2 (jl2i (jld (jlm (σ.1 105 v3) (σ.1 97 (ja (jm 3 v1) 2))) 100))) h3 hF
    refine at_sub (lv' := [(0, vr g 94), (1, vi v1), (2, vi 0), (3, vi 0)]) [2, 3, 1, 0] rfl ?_
    exact L24 v1 0 0 q3.2 h1 (isB.r (Or.inl rfl)) (isB.r (Or.inl rfl)) okq3 hF
  · have hF := (if_pos c2).symm.trans hF
    refine at_iconst (pc := 13) C dX12_tax_13 ?_
    obtain rfl := Option.some.inj hF
    exact at_iret (pc := 14) C hr hlk (show inR (-1) from ⟨by decide, by decide⟩) (OK_up (k := 94) (j := 2) ok (isB.r (Or.inl rfl))) dX12_tax_14
abbrev rm_X12_without : Room := { frames := 6, cells := 0, slots := 0, locals := 142 }
def F_X12_without_J128 (N : Nat)  (v1 : Int) (v2 : Int) (σ : Sto) : Option (Int × Sto) :=
  (F_X12_lay N 0 v2 σ).bind (fun q4 => (F_X12_solves N (upI q4 94 38 v1)).bind (fun q5 => some (q5.1, (upI (upI q5.2 94 38 (-1)) 94 24 0))))
def F_X12_without_J122 (N : Nat) (nx30 : (Int × Int × Sto) → Option (Int × Sto)) (v1 : Int) (v2 : Int) (v3 : Int) (σ : Sto) : Option (Int × Sto) :=
  nx30 (v2, (ja v3 1), σ)
def F_X12_without_J119 (N : Nat) (nx30 : (Int × Int × Sto) → Option (Int × Sto)) (v1 : Int) (v2 : Int) (v3 : Int) (σ : Sto) : Option (Int × Sto) :=
  F_X12_without_J122 N nx30 v1 (ja v2 1) v3 σ
def F_X12_without_B85 (N : Nat) (nx30 : (Int × Int × Sto) → Option (Int × Sto)) (nx85 : (Int × Sto) → Option (Int × Sto)) (v1 : Int) (v2 : Int) (v3 : Int) (v4 : Int) (v5 : Int) (σ : Sto) : Option (Int × Sto) :=
  if 3 ≤ v5 then (F_X12_without_J119 N nx30 v1 v2 v3 σ) else (inb (ja v4 v5) 4600 ((F_X12_lay N (ja (ja 1 (jm 3 v2)) v5) (σ.1 101 (ja v4 v5)) σ).bind (fun q16 => nx85 ((ja v5 1), q16))))
def F_X12_without_B30 (N : Nat) (nx30 : (Int × Int × Sto) → Option (Int × Sto)) (v1 : Int) (v2 : Int) (v3 : Int) (σ : Sto) : Option (Int × Sto) :=
  inb 0 4600 (if (σ.1 101 0) ≤ v3 then (F_X12_without_J128 N  v1 v2 σ) else (inb (ja 1 (jm 3 v3)) 4600 ((F_X12_memberOf N (σ.1 101 (ja 1 (jm 3 v3))) σ).bind (fun q9 => if q9 = v1 then (F_X12_without_J122 N nx30 v1 v2 v3 σ) else (inb (ja (ja 1 (jm 3 v3)) 1) 4600 ((F_X12_memberOf N (σ.1 101 (ja (ja 1 (jm 3 v3)) 1)) σ).bind (fun q12 => if q12 = v1 then (F_X12_without_J122 N nx30 v1 v2 v3 σ) else (loopK (fun q nx85 => F_X12_without_B85 N nx30 nx85 v1 v2 v3 (ja 1 (jm 3 v3)) q.1 q.2) N (0, σ)))))))))
def F_X12_without (N : Nat) (v1 : Int) (σ : Sto) : Option (Int × Sto) :=
  (F_X12_isMember N v1 (upI σ 94 2 0)).bind (fun q1 => if q1 = 0 then (some ((-1), (upI σ 94 2 0))) else ((F_X12_copyBank N 0 1 (upI σ 94 2 0)).bind (fun q3 => loopK (fun q nx30 => F_X12_without_B30 N  nx30 v1 q.1 q.2.1 q.2.2) N (0, 0, (upI q3 94 24 1)))))
set_option maxHeartbeats 4000000 in
set_option maxRecDepth 100000 in
theorem c_X12_without (l : Launch) (g : Geo) (N : Nat) (v1 : Int) (σ : Sto) (res : Int × Sto) (h1 : inR v1) (ok : OK σ) (hF : F_X12_without N v1 σ = some res) : MtI l g yX12_without cX12_without 6 (some .int) rm_X12_without [vr g 94, vi v1] σ res.1 res.2 inR := by
  intro sz
  refine Met.ofAt (own := RX12) (QQ := fun z => QI g z res.1 res.2 inR) (by decide +kernel) (Nat.le_of_ble_eq_true rfl) rfl ?_
  intro p e s m args below meth c C hr hlk
  show At p l e rm_X12_without s m args below meth c 0 0 g 6 (MQ below (QI g s.heap.size res.1 res.2 inR) args s 0 0 (AA g s.heap.size)) 0 [(0, vr g 94), (1, vi v1)] [] σ
  unfold F_X12_without at hF
  refine at_aload_n (pc := 0) C 0 dX12_without_0 rfl rfl ?_
  refine at_iconst (pc := 1) C dX12_without_1 ?_
  refine at_puti (pc := 2) (jz := 2) C fu_12_81 kd94 rfl (Nat.le_of_ble_eq_true rfl) rfl rfl dX12_without_2 ?_
  refine at_aload_n (pc := 5) C 0 dX12_without_5 rfl rfl ?_
  refine at_iload_n (pc := 6) C 1 dX12_without_6 rfl rfl ?_
  obtain ⟨q1, eq1, hF⟩ := bind_some' hF
  refine at_callV (pc := 7) (ci := 12) C (c_X12_isMember l g N v1 (upI σ 94 2 0) q1 h1 (OK_up (k := 94) (j := 2) ok (isB.r (Or.inl rfl))) eq1) kv_X12_isMember w1727 kd94 rfl rfl rfl rfl (Nat.le_of_ble_eq_true rfl) ⟨rfl, rfl, (Nat.le_of_ble_eq_true rfl), (Nat.le_of_ble_eq_true rfl)⟩ dX12_without_7 (fun tq1 okq1 => ?_)
  refine at_if_ne (pc := 10) (tgt := 15) C (isB.r tq1) dX12_without_10 rfl (fun c2 => ?_) (fun c2 => ?_)
  · have hF := (if_neg c2).symm.trans hF
    refine at_aload_n (pc := 15) C 0 dX12_without_15 rfl rfl ?_
    refine at_iconst (pc := 16) C dX12_without_16 ?_
    refine at_iconst (pc := 17) C dX12_without_17 ?_
    obtain ⟨q3, eq3, hF⟩ := bind_some' hF
    refine at_callVv (pc := 18) (ci := 12) C (c_X12_copyBank l g N 0 1 (upI σ 94 2 0) q3 (isB.r (Or.inl rfl)) (isB.r (Or.inr rfl)) (OK_up (k := 94) (j := 2) ok (isB.r (Or.inl rfl))) eq3) kv_X12_copyBank w1557 kd94 rfl rfl rfl rfl (Nat.le_of_ble_eq_true rfl) ⟨rfl, rfl, (Nat.le_of_ble_eq_true rfl), (Nat.le_of_ble_eq_true rfl)⟩ dX12_without_18 (fun okq3 => ?_)
    refine at_aload_n (pc := 21) C 0 dX12_without_21 rfl rfl ?_
    refine at_iconst (pc := 22) C dX12_without_22 ?_
    refine at_puti (pc := 23) (jz := 24) C fu_12_148 kd94 rfl (Nat.le_of_ble_eq_true rfl) rfl rfl dX12_without_23 ?_
    refine at_iconst (pc := 26) C dX12_without_26 ?_
    refine at_istore_n (pc := 27) (lv' := [(2, vi 0), (0, vr g 94), (1, vi v1)]) C dX12_without_27 rfl (Nat.le_of_ble_eq_true rfl) rfl ?_
    refine at_iconst (pc := 28) C dX12_without_28 ?_
    refine at_istore_n (pc := 29) (lv' := [(3, vi 0), (2, vi 0), (0, vr g 94), (1, vi v1)]) C dX12_without_29 rfl (Nat.le_of_ble_eq_true rfl) rfl ?_
    have L30 : ∀ (v1 : Int) (v2 : Int) (v3 : Int) (σ : Sto), inR v1 → inR v2 → inR v3 → OK σ → loopK (fun q nx30 => F_X12_without_B30 N  nx30 v1 q.1 q.2.1 q.2.2) N (v2, v3, σ) = some res → At p l e rm_X12_without s m args below meth c 0 0 g 6 (MQ below (QI g s.heap.size res.1 res.2 inR) args s 0 0 (AA g s.heap.size)) 30 [(0, vr g 94), (1, vi v1), (2, vi v2), (3, vi v3)] [] σ := by
      intro v1 v2 v3 σ h1 h2 h3 ok hF
      refine loopK_ind (res := res) (P := fun (q : Int × Int × Sto) => inR q.1 → inR q.2.1 → OK q.2.2 → At p l e rm_X12_without s m args below meth c 0 0 g 6 (MQ below (QI g s.heap.size res.1 res.2 inR) args s 0 0 (AA g s.heap.size)) 30 [(0, vr g 94), (1, vi v1), (2, vi q.1), (3, vi q.2.1)] [] q.2.2) ?_ N _ hF h2 h3 ok
      intro nx30 q ih30 hF
      obtain ⟨v2, v3, σ⟩ := q
      intro h2 h3 ok
      have hF : F_X12_without_B30 N  nx30 v1 v2 v3 σ = some res := hF
      unfold F_X12_without_B30 at hF
      have J128 : ∀ (v1 : Int) (v2 : Int) (σ : Sto), inR v1 → inR v2 → OK σ → F_X12_without_J128 N  v1 v2 σ = some res → At p l e rm_X12_without s m args below meth c 0 0 g 6 (MQ below (QI g s.heap.size res.1 res.2 inR) args s 0 0 (AA g s.heap.size)) 128 [(0, vr g 94), (1, vi v1), (2, vi v2)] [] σ := by
        intro v1 v2 σ h1 h2 ok hF
        unfold F_X12_without_J128 at hF
        refine at_aload_n (pc := 128) C 0 dX12_without_128 rfl rfl ?_
        refine at_iconst (pc := 129) C dX12_without_129 ?_
        refine at_iload_n (pc := 130) C 2 dX12_without_130 rfl rfl ?_
        obtain ⟨q4, eq4, hF⟩ := bind_some' hF
        refine at_callVv (pc := 131) (ci := 12) C (c_X12_lay l g N 0 v2 σ q4 (isB.r (Or.inl rfl)) h2 ok eq4) kv_X12_lay w1319 kd94 rfl rfl rfl rfl (Nat.le_of_ble_eq_true rfl) ⟨rfl, rfl, (Nat.le_of_ble_eq_true rfl), (Nat.le_of_ble_eq_true rfl)⟩ dX12_without_131 (fun okq4 => ?_)
        refine at_aload_n (pc := 134) C 0 dX12_without_134 rfl rfl ?_
        refine at_iload_n (pc := 135) C 1 dX12_without_135 rfl rfl ?_
        refine at_puti (pc := 136) (jz := 38) C fu_12_57 kd94 rfl (Nat.le_of_ble_eq_true rfl) rfl rfl dX12_without_136 ?_
        refine at_aload_n (pc := 139) C 0 dX12_without_139 rfl rfl ?_
        obtain ⟨q5, eq5, hF⟩ := bind_some' hF
        refine at_callV (pc := 140) (ci := 12) C (c_X12_solves l g N  (upI q4 94 38 v1) q5  (OK_up (k := 94) (j := 38) okq4 h1) eq5) kv_X12_solves w1683 kd94 rfl rfl rfl rfl (Nat.le_of_ble_eq_true rfl) ⟨rfl, rfl, (Nat.le_of_ble_eq_true rfl), (Nat.le_of_ble_eq_true rfl)⟩ dX12_without_140 (fun tq5 okq5 => ?_)
        refine at_istore_n (pc := 143) (lv' := [(3, vi q5.1), (0, vr g 94), (1, vi v1), (2, vi v2)]) C dX12_without_143 rfl (Nat.le_of_ble_eq_true rfl) rfl ?_
        refine at_aload_n (pc := 144) C 1 dX12_without_144 rfl rfl ?_
        refine at_iconst (pc := 145) C dX12_without_145 ?_
        refine at_puti (pc := 146) (jz := 38) C fu_12_57 kd94 rfl (Nat.le_of_ble_eq_true rfl) rfl rfl dX12_without_146 ?_
        refine at_aload_n (pc := 149) C 1 dX12_without_149 rfl rfl ?_
        refine at_iconst (pc := 150) C dX12_without_150 ?_
        refine at_puti (pc := 151) (jz := 24) C fu_12_148 kd94 rfl (Nat.le_of_ble_eq_true rfl) rfl rfl dX12_without_151 ?_
        refine at_iload_n (pc := 154) C 0 dX12_without_154 rfl rfl ?_
        obtain rfl := Option.some.inj hF
        exact at_iret (pc := 155) C hr hlk tq5 (OK_up (k := 94) (j := 24) (OK_up (k := 94) (j := 38) okq5 (show inR (-1) from ⟨by decide, by decide⟩)) (isB.r (Or.inl rfl))) dX12_without_155
      refine at_iload_n (pc := 30) C 3 dX12_without_30 rfl rfl ?_
      refine at_aload_n (pc := 31) C 0 dX12_without_31 rfl rfl ?_
      refine at_getr (pc := 32) (k' := 101) C 7 fw_12_32 kd94 rfl (Nat.le_of_ble_eq_true rfl) rfl rfl dX12_without_32 ?_
      refine at_iconst (pc := 35) C dX12_without_35 ?_
      obtain ⟨b6, hF⟩ := inb_some hF
      refine at_iaload (pc := 36) C kd101 b6 dX12_without_36 ?_
      refine at_icmp_ge (pc := 37) (tgt := 128) C h3 (ok 101 0) dX12_without_37 rfl (fun c7 => ?_) (fun c7 => ?_)
      · have hF := (if_pos c7).symm.trans hF
        refine at_sub (lv' := [(0, vr g 94), (1, vi v1), (2, vi v2)]) [0, 1, 2] rfl ?_
        exact J128 v1 v2 σ h1 h2 ok hF
      · have hF := (if_neg c7).symm.trans hF
        have J122 : ∀ (v2 : Int) (v3 : Int) (σ : Sto), inR v2 → inR v3 → OK σ → F_X12_without_J122 N nx30 v1 v2 v3 σ = some res → At p l e rm_X12_without s m args below meth c 0 0 g 6 (MQ below (QI g s.heap.size res.1 res.2 inR) args s 0 0 (AA g s.heap.size)) 122 [(0, vr g 94), (1, vi v1), (2, vi v2), (3, vi v3)] [] σ := by
          intro v2 v3 σ h2 h3 ok hF
          unfold F_X12_without_J122 at hF
          refine at_iinc (pc := 122) (lv' := [(3, vi (ja v3 1)), (0, vr g 94), (1, vi v1), (2, vi v2)]) C 3 dX12_without_122 rfl (Nat.le_of_ble_eq_true rfl) rfl ?_
          refine at_goto (pc := 125) (tgt := 30) C dX12_without_125 rfl ?_
          refine at_sub (lv' := [(0, vr g 94), (1, vi v1), (2, vi v2), (3, vi (ja v3 1))]) [1, 2, 3, 0] rfl ?_
          exact ih30 _ hF h2 (ja_R v3 1) ok
        refine at_iconst (pc := 40) C dX12_without_40 ?_
        refine at_iconst (pc := 41) C dX12_without_41 ?_
        refine at_iload_n (pc := 42) C 3 dX12_without_42 rfl rfl ?_
        refine at_imul (pc := 43) C dX12_without_43 ?_
        refine at_iadd (pc := 44) C dX12_without_44 ?_
        refine at_istore (pc := 45) (lv' := [(4, vi (ja 1 (jm 3 v3))), (0, vr g 94), (1, vi v1), (2, vi v2), (3, vi v3)]) C dX12_without_45 (Nat.le_of_ble_eq_true rfl) rfl ?_
        refine at_aload_n (pc := 47) C 1 dX12_without_47 rfl rfl ?_
        refine at_aload_n (pc := 48) C 1 dX12_without_48 rfl rfl ?_
        refine at_getr (pc := 49) (k' := 101) C 7 fw_12_32 kd94 rfl (Nat.le_of_ble_eq_true rfl) rfl rfl dX12_without_49 ?_
        refine at_iload (pc := 52) C 0 dX12_without_52 rfl ?_
        obtain ⟨b8, hF⟩ := inb_some hF
        refine at_iaload (pc := 54) C kd101 b8 dX12_without_54 ?_
        obtain ⟨q9, eq9, hF⟩ := bind_some' hF
        refine at_callV (pc := 55) (ci := 12) C (c_X12_memberOf l g N (σ.1 101 (ja 1 (jm 3 v3))) σ q9 (ok 101 (ja 1 (jm 3 v3))) ok eq9) kv_X12_memberOf w1593 kd94 rfl rfl rfl rfl (Nat.le_of_ble_eq_true rfl) ⟨rfl, rfl, (Nat.le_of_ble_eq_true rfl), (Nat.le_of_ble_eq_true rfl)⟩ dX12_without_55 (fun tq9 okq9 => ?_)
        refine at_iload_n (pc := 58) C 2 dX12_without_58 rfl rfl ?_
        refine at_icmp_eq (pc := 59) (tgt := 122) C tq9 h1 dX12_without_59 rfl (fun c10 => ?_) (fun c10 => ?_)
        · have hF := (if_pos c10).symm.trans hF
          refine at_sub (lv' := [(0, vr g 94), (1, vi v1), (2, vi v2), (3, vi v3)]) [1, 2, 3, 4] rfl ?_
          exact J122 v2 v3 σ h2 h3 ok hF
        · have hF := (if_neg c10).symm.trans hF
          refine at_aload_n (pc := 62) C 1 dX12_without_62 rfl rfl ?_
          refine at_aload_n (pc := 63) C 1 dX12_without_63 rfl rfl ?_
          refine at_getr (pc := 64) (k' := 101) C 7 fw_12_32 kd94 rfl (Nat.le_of_ble_eq_true rfl) rfl rfl dX12_without_64 ?_
          refine at_iload (pc := 67) C 0 dX12_without_67 rfl ?_
          refine at_iconst (pc := 69) C dX12_without_69 ?_
          refine at_iadd (pc := 70) C dX12_without_70 ?_
          obtain ⟨b11, hF⟩ := inb_some hF
          refine at_iaload (pc := 71) C kd101 b11 dX12_without_71 ?_
          obtain ⟨q12, eq12, hF⟩ := bind_some' hF
          refine at_callV (pc := 72) (ci := 12) C (c_X12_memberOf l g N (σ.1 101 (ja (ja 1 (jm 3 v3)) 1)) σ q12 (ok 101 (ja (ja 1 (jm 3 v3)) 1)) ok eq12) kv_X12_memberOf w1593 kd94 rfl rfl rfl rfl (Nat.le_of_ble_eq_true rfl) ⟨rfl, rfl, (Nat.le_of_ble_eq_true rfl), (Nat.le_of_ble_eq_true rfl)⟩ dX12_without_72 (fun tq12 okq12 => ?_)
          refine at_iload_n (pc := 75) C 2 dX12_without_75 rfl rfl ?_
          refine at_icmp_ne (pc := 76) (tgt := 82) C tq12 h1 dX12_without_76 rfl (fun c13 => ?_) (fun c13 => ?_)
          · have hF := (if_neg c13).symm.trans hF
            refine at_iconst (pc := 82) C dX12_without_82 ?_
            refine at_istore (pc := 83) (lv' := [(5, vi 0), (4, vi (ja 1 (jm 3 v3))), (0, vr g 94), (1, vi v1), (2, vi v2), (3, vi v3)]) C dX12_without_83 (Nat.le_of_ble_eq_true rfl) rfl ?_
            have L85 : ∀ (v2 : Int) (v3 : Int) (v4 : Int) (v5 : Int) (σ : Sto), inR v2 → inR v3 → inR v4 → inR v5 → OK σ → loopK (fun q nx85 => F_X12_without_B85 N nx30 nx85 v1 v2 v3 v4 q.1 q.2) N (v5, σ) = some res → At p l e rm_X12_without s m args below meth c 0 0 g 6 (MQ below (QI g s.heap.size res.1 res.2 inR) args s 0 0 (AA g s.heap.size)) 85 [(0, vr g 94), (1, vi v1), (2, vi v2), (3, vi v3), (4, vi v4), (5, vi v5)] [] σ := by
              intro v2 v3 v4 v5 σ h2 h3 h4 h5 ok hF
              refine loopK_ind (res := res) (P := fun (q : Int × Sto) => inR q.1 → OK q.2 → At p l e rm_X12_without s m args below meth c 0 0 g 6 (MQ below (QI g s.heap.size res.1 res.2 inR) args s 0 0 (AA g s.heap.size)) 85 [(0, vr g 94), (1, vi v1), (2, vi v2), (3, vi v3), (4, vi v4), (5, vi q.1)] [] q.2) ?_ N _ hF h5 ok
              intro nx85 q ih85 hF
              obtain ⟨v5, σ⟩ := q
              intro h5 ok
              have hF : F_X12_without_B85 N nx30 nx85 v1 v2 v3 v4 v5 σ = some res := hF
              unfold F_X12_without_B85 at hF
              have J119 : ∀ (v2 : Int) (v3 : Int) (σ : Sto), inR v2 → inR v3 → OK σ → F_X12_without_J119 N nx30 v1 v2 v3 σ = some res → At p l e rm_X12_without s m args below meth c 0 0 g 6 (MQ below (QI g s.heap.size res.1 res.2 inR) args s 0 0 (AA g s.heap.size)) 119 [(0, vr g 94), (1, vi v1), (2, vi v2), (3, vi v3)] [] σ := by
                intro v2 v3 σ h2 h3 ok hF
                unfold F_X12_without_J119 at hF
                refine at_iinc (pc := 119) (lv' := [(2, vi (ja v2 1)), (0, vr g 94), (1, vi v1), (3, vi v3)]) C 2 dX12_without_119 rfl (Nat.le_of_ble_eq_true rfl) rfl ?_
                refine at_sub (lv' := [(0, vr g 94), (1, vi v1), (2, vi (ja v2 1)), (3, vi v3)]) [1, 2, 0, 3] rfl ?_
                exact J122 (ja v2 1) v3 σ (ja_R v2 1) h3 ok hF
              refine at_iload (pc := 85) C 5 dX12_without_85 rfl ?_
              refine at_iconst (pc := 87) C dX12_without_87 ?_
              refine at_icmp_ge (pc := 88) (tgt := 119) C h5 (show inR 3 from ⟨by decide, by decide⟩) dX12_without_88 rfl (fun c14 => ?_) (fun c14 => ?_)
              · have hF := (if_pos c14).symm.trans hF
                refine at_sub (lv' := [(0, vr g 94), (1, vi v1), (2, vi v2), (3, vi v3)]) [0, 1, 2, 3] rfl ?_
                exact J119 v2 v3 σ h2 h3 ok hF
              · have hF := (if_neg c14).symm.trans hF
                refine at_aload_n (pc := 91) C 0 dX12_without_91 rfl rfl ?_
                refine at_iconst (pc := 92) C dX12_without_92 ?_
                refine at_iconst (pc := 93) C dX12_without_93 ?_
                refine at_iload_n (pc := 94) C 2 dX12_without_94 rfl rfl ?_
                refine at_imul (pc := 95) C dX12_without_95 ?_
                refine at_iadd (pc := 96) C dX12_without_96 ?_
                refine at_iload (pc := 97) C 5 dX12_without_97 rfl ?_
                refine at_iadd (pc := 99) C dX12_without_99 ?_
                refine at_aload_n (pc := 100) C 0 dX12_without_100 rfl rfl ?_
                refine at_getr (pc := 101) (k' := 101) C 7 fw_12_32 kd94 rfl (Nat.le_of_ble_eq_true rfl) rfl rfl dX12_without_101 ?_
                refine at_iload (pc := 104) C 4 dX12_without_104 rfl ?_
                refine at_iload (pc := 106) C 5 dX12_without_106 rfl ?_
                refine at_iadd (pc := 108) C dX12_without_108 ?_
                obtain ⟨b15, hF⟩ := inb_some hF
                refine at_iaload (pc := 109) C kd101 b15 dX12_without_109 ?_
                obtain ⟨q16, eq16, hF⟩ := bind_some' hF
                refine at_callVv (pc := 110) (ci := 12) C (c_X12_lay l g N (ja (ja 1 (jm 3 v2)) v5) (σ.1 101 (ja v4 v5)) σ q16 (ja_R (ja 1 (jm 3 v2)) v5) (ok 101 (ja v4 v5)) ok eq16) kv_X12_lay w1319 kd94 rfl rfl rfl rfl (Nat.le_of_ble_eq_true rfl) ⟨rfl, rfl, (Nat.le_of_ble_eq_true rfl), (Nat.le_of_ble_eq_true rfl)⟩ dX12_without_110 (fun okq16 => ?_)
                refine at_iinc (pc := 113) (lv' := [(5, vi (ja v5 1)), (0, vr g 94), (1, vi v1), (2, vi v2), (3, vi v3), (4, vi v4)]) C 5 dX12_without_113 rfl (Nat.le_of_ble_eq_true rfl) rfl ?_
                refine at_goto (pc := 116) (tgt := 85) C dX12_without_116 rfl ?_
                refine at_sub (lv' := [(0, vr g 94), (1, vi v1), (2, vi v2), (3, vi v3), (4, vi v4), (5, vi (ja v5 1))]) [1, 2, 3, 4, 5, 0] rfl ?_
                exact ih85 _ hF (ja_R v5 1) okq16
            refine at_sub (lv' := [(0, vr g 94), (1, vi v1), (2, vi v2), (3, vi v3), (4, vi (ja 1 (jm 3 v3))), (5, vi 0)]) [2, 3, 4, 5, 1, 0] rfl ?_
            exact L85 v2 v3 (ja 1 (jm 3 v3)) 0 σ h2 h3 (ja_R 1 (jm 3 v3)) (isB.r (Or.inl rfl)) ok hF
          · have hF := (if_pos c13).symm.trans hF
            refine at_goto (pc := 79) (tgt := 122) C dX12_without_79 rfl ?_
            refine at_sub (lv' := [(0, vr g 94), (1, vi v1), (2, vi v2), (3, vi v3)]) [1, 2, 3, 4] rfl ?_
            exact J122 v2 v3 σ h2 h3 ok hF
    refine at_sub (lv' := [(0, vr g 94), (1, vi v1), (2, vi 0), (3, vi 0)]) [2, 3, 1, 0] rfl ?_
    exact L30 v1 0 0 (upI q3 94 24 1) h1 (isB.r (Or.inl rfl)) (isB.r (Or.inl rfl)) (OK_up (k := 94) (j := 24) okq3 (isB.r (Or.inr rfl))) hF
  · have hF := (if_pos c2).symm.trans hF
    refine at_iconst (pc := 13) C dX12_without_13 ?_
    obtain rfl := Option.some.inj hF
    exact at_iret (pc := 14) C hr hlk (show inR (-1) from ⟨by decide, by decide⟩) (OK_up (k := 94) (j := 2) ok (isB.r (Or.inl rfl))) dX12_without_14
abbrev rm_X12_worth : Room := { frames := 6, cells := 0, slots := 0, locals := 142 }
def F_X12_worth (N : Nat) (v1 : Int) (v2 : Int) (v3 : Int) (σ : Sto) : Option (Int × Sto) :=
  (F_X12_isLink N v1 v2 (upI σ 94 2 0)).bind (fun q1 => if q1 = 0 then (some ((-1), (upI σ 94 2 0))) else ((F_X12_isIn N v3 1 99999 (upI σ 94 2 0)).bind (fun q3 => if q3 = 0 then (some ((-1), (upI σ 94 2 0))) else ((F_X12_solves N (upI σ 94 2 0)).bind (fun q5 => inb 0 8 ((F_X12_laysAll N (q5.2.1 100 0) 1 q5.2).bind (fun q7 => inb (ja (jm 12 v1) v2) 144 ((F_X12_relieves N (upI q7 106 (ja (jm 12 v1) v2) (ja (q7.1 106 (ja (jm 12 v1) v2)) v3))).bind (fun q9 => some ((js q9.1 q5.1), q9.2))))))))))
set_option maxHeartbeats 4000000 in
set_option maxRecDepth 100000 in
theorem c_X12_worth (l : Launch) (g : Geo) (N : Nat) (v1 : Int) (v2 : Int) (v3 : Int) (σ : Sto) (res : Int × Sto) (h1 : inR v1) (h2 : inR v2) (h3 : inR v3) (ok : OK σ) (hF : F_X12_worth N v1 v2 v3 σ = some res) : MtI l g yX12_worth cX12_worth 5 (some .int) rm_X12_worth [vr g 94, vi v1, vi v2, vi v3] σ res.1 res.2 inR := by
  intro sz
  refine Met.ofAt (own := RX12) (QQ := fun z => QI g z res.1 res.2 inR) (by decide +kernel) (Nat.le_of_ble_eq_true rfl) rfl ?_
  intro p e s m args below meth c C hr hlk
  show At p l e rm_X12_worth s m args below meth c 0 0 g 5 (MQ below (QI g s.heap.size res.1 res.2 inR) args s 0 0 (AA g s.heap.size)) 0 [(0, vr g 94), (1, vi v1), (2, vi v2), (3, vi v3)] [] σ
  unfold F_X12_worth at hF
  refine at_aload_n (pc := 0) C 0 dX12_worth_0 rfl rfl ?_
  refine at_iconst (pc := 1) C dX12_worth_1 ?_
  refine at_puti (pc := 2) (jz := 2) C fu_12_81 kd94 rfl (Nat.le_of_ble_eq_true rfl) rfl rfl dX12_worth_2 ?_
  refine at_aload_n (pc := 5) C 0 dX12_worth_5 rfl rfl ?_
  refine at_iload_n (pc := 6) C 1 dX12_worth_6 rfl rfl ?_
  refine at_iload_n (pc := 7) C 2 dX12_worth_7 rfl rfl ?_
  obtain ⟨q1, eq1, hF⟩ := bind_some' hF
  refine at_callV (pc := 8) (ci := 12) C (c_X12_isLink l g N v1 v2 (upI σ 94 2 0) q1 h1 h2 (OK_up (k := 94) (j := 2) ok (isB.r (Or.inl rfl))) eq1) kv_X12_isLink w1577 kd94 rfl rfl rfl rfl (Nat.le_of_ble_eq_true rfl) ⟨rfl, rfl, (Nat.le_of_ble_eq_true rfl), (Nat.le_of_ble_eq_true rfl)⟩ dX12_worth_8 (fun tq1 okq1 => ?_)
  refine at_if_eq (pc := 11) (tgt := 24) C (isB.r tq1) dX12_worth_11 rfl (fun c2 => ?_) (fun c2 => ?_)
  · have hF := (if_pos c2).symm.trans hF
    refine at_iconst (pc := 24) C dX12_worth_24 ?_
    obtain rfl := Option.some.inj hF
    exact at_iret (pc := 25) C hr hlk (show inR (-1) from ⟨by decide, by decide⟩) (OK_up (k := 94) (j := 2) ok (isB.r (Or.inl rfl))) dX12_worth_25
  · have hF := (if_neg c2).symm.trans hF
    refine at_iload_n (pc := 14) C 3 dX12_worth_14 rfl rfl ?_
    refine at_iconst (pc := 15) C dX12_worth_15 ?_
    refine at_ldc (pc := 16) (n := 99999) C dX12_worth_16 w1500 ?_
    obtain ⟨q3, eq3, hF⟩ := bind_some' hF
    refine at_callS (pc := 18) C (c_X12_isIn l g N v3 1 99999 (upI σ 94 2 0) q3 h3 (isB.r (Or.inr rfl)) (show inR 99999 from ⟨by decide, by decide⟩) (OK_up (k := 94) (j := 2) ok (isB.r (Or.inl rfl))) eq3) ks_X12_isIn w1525 rfl rfl (Nat.le_of_ble_eq_true rfl) ⟨rfl, rfl, (Nat.le_of_ble_eq_true rfl), (Nat.le_of_ble_eq_true rfl)⟩ dX12_worth_18 (fun tq3 okq3 => ?_)
    refine at_if_ne (pc := 21) (tgt := 26) C (isB.r tq3) dX12_worth_21 rfl (fun c4 => ?_) (fun c4 => ?_)
    · have hF := (if_neg c4).symm.trans hF
      refine at_aload_n (pc := 26) C 0 dX12_worth_26 rfl rfl ?_
      obtain ⟨q5, eq5, hF⟩ := bind_some' hF
      refine at_callV (pc := 27) (ci := 12) C (c_X12_solves l g N  (upI σ 94 2 0) q5  (OK_up (k := 94) (j := 2) ok (isB.r (Or.inl rfl))) eq5) kv_X12_solves w1683 kd94 rfl rfl rfl rfl (Nat.le_of_ble_eq_true rfl) ⟨rfl, rfl, (Nat.le_of_ble_eq_true rfl), (Nat.le_of_ble_eq_true rfl)⟩ dX12_worth_27 (fun tq5 okq5 => ?_)
      refine at_istore (pc := 30) (lv' := [(4, vi q5.1), (0, vr g 94), (1, vi v1), (2, vi v2), (3, vi v3)]) C dX12_worth_30 (Nat.le_of_ble_eq_true rfl) rfl ?_
      refine at_aload_n (pc := 32) C 1 dX12_worth_32 rfl rfl ?_
      refine at_aload_n (pc := 33) C 1 dX12_worth_33 rfl rfl ?_
      refine at_getr (pc := 34) (k' := 100) C 6 fw_12_29 kd94 rfl (Nat.le_of_ble_eq_true rfl) rfl rfl dX12_worth_34 ?_
      refine at_iconst (pc := 37) C dX12_worth_37 ?_
      obtain ⟨b6, hF⟩ := inb_some hF
      refine at_iaload (pc := 38) C kd100 b6 dX12_worth_38 ?_
      refine at_iconst (pc := 39) C dX12_worth_39 ?_
      obtain ⟨q7, eq7, hF⟩ := bind_some' hF
      refine at_callVv (pc := 40) (ci := 12) C (c_X12_laysAll l g N (q5.2.1 100 0) 1 q5.2 q7 (okq5 100 0) (Or.inr rfl) okq5 eq7) kv_X12_laysAll w1687 kd94 rfl rfl rfl rfl (Nat.le_of_ble_eq_true rfl) ⟨rfl, rfl, (Nat.le_of_ble_eq_true rfl), (Nat.le_of_ble_eq_true rfl)⟩ dX12_worth_40 (fun okq7 => ?_)
      refine at_aload_n (pc := 43) C 1 dX12_worth_43 rfl rfl ?_
      refine at_getr (pc := 44) (k' := 106) C 12 fw_12_51 kd94 rfl (Nat.le_of_ble_eq_true rfl) rfl rfl dX12_worth_44 ?_
      refine at_bipush (pc := 47) C dX12_worth_47 (by decide) ?_
      refine at_iload_n (pc := 49) C 2 dX12_worth_49 rfl rfl ?_
      refine at_imul (pc := 50) C dX12_worth_50 ?_
      refine at_iload_n (pc := 51) C 3 dX12_worth_51 rfl rfl ?_
      refine at_iadd (pc := 52) C dX12_worth_52 ?_
      refine at_dup2 (pc := 53) C dX12_worth_53 rfl rfl ?_
      obtain ⟨b8, hF⟩ := inb_some hF
      refine at_iaload (pc := 54) C kd106 b8 dX12_worth_54 ?_
      refine at_iload_n (pc := 55) C 4 dX12_worth_55 rfl rfl ?_
      refine at_iadd (pc := 56) C dX12_worth_56 ?_
      refine at_iastore (pc := 57) C kd106 b8 dX12_worth_57 ?_
      refine at_aload_n (pc := 58) C 1 dX12_worth_58 rfl rfl ?_
      obtain ⟨q9, eq9, hF⟩ := bind_some' hF
      refine at_callV (pc := 59) (ci := 12) C (c_X12_relieves l g N  (upI q7 106 (ja (jm 12 v1) v2) (ja (q7.1 106 (ja (jm 12 v1) v2)) v3)) q9  (OK_up (k := 106) (j := (ja (jm 12 v1) v2)) okq7 (ja_R (q7.1 106 (ja (jm 12 v1) v2)) v3)) eq9) kv_X12_relieves w1691 kd94 rfl rfl rfl rfl (Nat.le_of_ble_eq_true rfl) ⟨rfl, rfl, (Nat.le_of_ble_eq_true rfl), (Nat.le_of_ble_eq_true rfl)⟩ dX12_worth_59 (fun tq9 okq9 => ?_)
      refine at_iload (pc := 62) C 0 dX12_worth_62 rfl ?_
      refine at_isub (pc := 64) C dX12_worth_64 ?_
      obtain rfl := Option.some.inj hF
      exact at_iret (pc := 65) C hr hlk (js_R q9.1 q5.1) okq9 dX12_worth_65
    · have hF := (if_pos c4).symm.trans hF
      refine at_iconst (pc := 24) C dX12_worth_24 ?_
      obtain rfl := Option.some.inj hF
      exact at_iret (pc := 25) C hr hlk (show inR (-1) from ⟨by decide, by decide⟩) (OK_up (k := 94) (j := 2) ok (isB.r (Or.inl rfl))) dX12_worth_25
abbrev rm_X12_lack : Room := { frames := 6, cells := 0, slots := 0, locals := 142 }
def F_X12_lack_J85 (N : Nat)  (v4 : Int) (t1 : Int) (t2 : Int) (σ : Sto) : Option (Int × Sto) :=
  inb t1 144 ((F_X12_relieves N (upI σ 106 t1 t2)).bind (fun q6 => some ((js v4 q6.1), q6.2)))
def F_X12_lack (N : Nat) (v1 : Int) (v2 : Int) (v3 : Int) (σ : Sto) : Option (Int × Sto) :=
  (F_X12_isLink N v1 v2 (upI σ 94 2 0)).bind (fun q1 => if q1 = 0 then (some ((-1), (upI σ 94 2 0))) else ((F_X12_isIn N v3 1 99999 (upI σ 94 2 0)).bind (fun q3 => if q3 = 0 then (some ((-1), (upI σ 94 2 0))) else ((F_X12_solves N (upI σ 94 2 0)).bind (fun q7 => inb 0 8 ((F_X12_laysAll N (q7.2.1 100 0) 1 q7.2).bind (fun q9 => inb (ja (jm 12 v1) v2) 144 (if (q9.1 106 (ja (jm 12 v1) v2)) ≤ v3 then (F_X12_lack_J85 N  q7.1 (ja (jm 12 v1) v2) 0 q9) else (F_X12_lack_J85 N  q7.1 (ja (jm 12 v1) v2) (js (q9.1 106 (ja (jm 12 v1) v2)) v3) q9)))))))))
set_option maxHeartbeats 4000000 in
set_option maxRecDepth 100000 in
theorem c_X12_lack (l : Launch) (g : Geo) (N : Nat) (v1 : Int) (v2 : Int) (v3 : Int) (σ : Sto) (res : Int × Sto) (h1 : inR v1) (h2 : inR v2) (h3 : inR v3) (ok : OK σ) (hF : F_X12_lack N v1 v2 v3 σ = some res) : MtI l g yX12_lack cX12_lack 5 (some .int) rm_X12_lack [vr g 94, vi v1, vi v2, vi v3] σ res.1 res.2 inR := by
  intro sz
  refine Met.ofAt (own := RX12) (QQ := fun z => QI g z res.1 res.2 inR) (by decide +kernel) (Nat.le_of_ble_eq_true rfl) rfl ?_
  intro p e s m args below meth c C hr hlk
  show At p l e rm_X12_lack s m args below meth c 0 0 g 5 (MQ below (QI g s.heap.size res.1 res.2 inR) args s 0 0 (AA g s.heap.size)) 0 [(0, vr g 94), (1, vi v1), (2, vi v2), (3, vi v3)] [] σ
  unfold F_X12_lack at hF
  refine at_aload_n (pc := 0) C 0 dX12_lack_0 rfl rfl ?_
  refine at_iconst (pc := 1) C dX12_lack_1 ?_
  refine at_puti (pc := 2) (jz := 2) C fu_12_81 kd94 rfl (Nat.le_of_ble_eq_true rfl) rfl rfl dX12_lack_2 ?_
  refine at_aload_n (pc := 5) C 0 dX12_lack_5 rfl rfl ?_
  refine at_iload_n (pc := 6) C 1 dX12_lack_6 rfl rfl ?_
  refine at_iload_n (pc := 7) C 2 dX12_lack_7 rfl rfl ?_
  obtain ⟨q1, eq1, hF⟩ := bind_some' hF
  refine at_callV (pc := 8) (ci := 12) C (c_X12_isLink l g N v1 v2 (upI σ 94 2 0) q1 h1 h2 (OK_up (k := 94) (j := 2) ok (isB.r (Or.inl rfl))) eq1) kv_X12_isLink w1577 kd94 rfl rfl rfl rfl (Nat.le_of_ble_eq_true rfl) ⟨rfl, rfl, (Nat.le_of_ble_eq_true rfl), (Nat.le_of_ble_eq_true rfl)⟩ dX12_lack_8 (fun tq1 okq1 => ?_)
  refine at_if_eq (pc := 11) (tgt := 24) C (isB.r tq1) dX12_lack_11 rfl (fun c2 => ?_) (fun c2 => ?_)
  · have hF := (if_pos c2).symm.trans hF
    refine at_iconst (pc := 24) C dX12_lack_24 ?_
    obtain rfl := Option.some.inj hF
    exact at_iret (pc := 25) C hr hlk (show inR (-1) from ⟨by decide, by decide⟩) (OK_up (k := 94) (j := 2) ok (isB.r (Or.inl rfl))) dX12_lack_25
  · have hF := (if_neg c2).symm.trans hF
    refine at_iload_n (pc := 14) C 3 dX12_lack_14 rfl rfl ?_
    refine at_iconst (pc := 15) C dX12_lack_15 ?_
    refine at_ldc (pc := 16) (n := 99999) C dX12_lack_16 w1500 ?_
    obtain ⟨q3, eq3, hF⟩ := bind_some' hF
    refine at_callS (pc := 18) C (c_X12_isIn l g N v3 1 99999 (upI σ 94 2 0) q3 h3 (isB.r (Or.inr rfl)) (show inR 99999 from ⟨by decide, by decide⟩) (OK_up (k := 94) (j := 2) ok (isB.r (Or.inl rfl))) eq3) ks_X12_isIn w1525 rfl rfl (Nat.le_of_ble_eq_true rfl) ⟨rfl, rfl, (Nat.le_of_ble_eq_true rfl), (Nat.le_of_ble_eq_true rfl)⟩ dX12_lack_18 (fun tq3 okq3 => ?_)
    refine at_if_ne (pc := 21) (tgt := 26) C (isB.r tq3) dX12_lack_21 rfl (fun c4 => ?_) (fun c4 => ?_)
    · have hF := (if_neg c4).symm.trans hF
      have J85 : ∀ (v4 : Int) (t1 : Int) (t2 : Int) (σ : Sto), inR v4 → inR t1 → inR t2 → OK σ → F_X12_lack_J85 N  v4 t1 t2 σ = some res → At p l e rm_X12_lack s m args below meth c 0 0 g 5 (MQ below (QI g s.heap.size res.1 res.2 inR) args s 0 0 (AA g s.heap.size)) 85 [(0, vr g 94), (4, vi v4)] [vi t2, vi t1, vr g 106] σ := by
        intro v4 t1 t2 σ h4 ht1 ht2 ok hF
        unfold F_X12_lack_J85 at hF
        obtain ⟨b5, hF⟩ := inb_some hF
        refine at_iastore (pc := 85) C kd106 b5 dX12_lack_85 ?_
        refine at_iload (pc := 86) C 1 dX12_lack_86 rfl ?_
        refine at_aload_n (pc := 88) C 0 dX12_lack_88 rfl rfl ?_
        obtain ⟨q6, eq6, hF⟩ := bind_some' hF
        refine at_callV (pc := 89) (ci := 12) C (c_X12_relieves l g N  (upI σ 106 t1 t2) q6  (OK_up (k := 106) (j := t1) ok ht2) eq6) kv_X12_relieves w1691 kd94 rfl rfl rfl rfl (Nat.le_of_ble_eq_true rfl) ⟨rfl, rfl, (Nat.le_of_ble_eq_true rfl), (Nat.le_of_ble_eq_true rfl)⟩ dX12_lack_89 (fun tq6 okq6 => ?_)
        refine at_isub (pc := 92) C dX12_lack_92 ?_
        obtain rfl := Option.some.inj hF
        exact at_iret (pc := 93) C hr hlk (js_R v4 q6.1) okq6 dX12_lack_93
      refine at_aload_n (pc := 26) C 0 dX12_lack_26 rfl rfl ?_
      obtain ⟨q7, eq7, hF⟩ := bind_some' hF
      refine at_callV (pc := 27) (ci := 12) C (c_X12_solves l g N  (upI σ 94 2 0) q7  (OK_up (k := 94) (j := 2) ok (isB.r (Or.inl rfl))) eq7) kv_X12_solves w1683 kd94 rfl rfl rfl rfl (Nat.le_of_ble_eq_true rfl) ⟨rfl, rfl, (Nat.le_of_ble_eq_true rfl), (Nat.le_of_ble_eq_true rfl)⟩ dX12_lack_27 (fun tq7 okq7 => ?_)
      refine at_istore (pc := 30) (lv' := [(4, vi q7.1), (0, vr g 94), (1, vi v1), (2, vi v2), (3, vi v3)]) C dX12_lack_30 (Nat.le_of_ble_eq_true rfl) rfl ?_
      refine at_aload_n (pc := 32) C 1 dX12_lack_32 rfl rfl ?_
      refine at_aload_n (pc := 33) C 1 dX12_lack_33 rfl rfl ?_
      refine at_getr (pc := 34) (k' := 100) C 6 fw_12_29 kd94 rfl (Nat.le_of_ble_eq_true rfl) rfl rfl dX12_lack_34 ?_
      refine at_iconst (pc := 37) C dX12_lack_37 ?_
      obtain ⟨b8, hF⟩ := inb_some hF
      refine at_iaload (pc := 38) C kd100 b8 dX12_lack_38 ?_
      refine at_iconst (pc := 39) C dX12_lack_39 ?_
      obtain ⟨q9, eq9, hF⟩ := bind_some' hF
      refine at_callVv (pc := 40) (ci := 12) C (c_X12_laysAll l g N (q7.2.1 100 0) 1 q7.2 q9 (okq7 100 0) (Or.inr rfl) okq7 eq9) kv_X12_laysAll w1687 kd94 rfl rfl rfl rfl (Nat.le_of_ble_eq_true rfl) ⟨rfl, rfl, (Nat.le_of_ble_eq_true rfl), (Nat.le_of_ble_eq_true rfl)⟩ dX12_lack_40 (fun okq9 => ?_)
      refine at_aload_n (pc := 43) C 1 dX12_lack_43 rfl rfl ?_
      refine at_getr (pc := 44) (k' := 106) C 12 fw_12_51 kd94 rfl (Nat.le_of_ble_eq_true rfl) rfl rfl dX12_lack_44 ?_
      refine at_bipush (pc := 47) C dX12_lack_47 (by decide) ?_
      refine at_iload_n (pc := 49) C 2 dX12_lack_49 rfl rfl ?_
      refine at_imul (pc := 50) C dX12_lack_50 ?_
      refine at_iload_n (pc := 51) C 3 dX12_lack_51 rfl rfl ?_
      refine at_iadd (pc := 52) C dX12_lack_52 ?_
      refine at_aload_n (pc := 53) C 1 dX12_lack_53 rfl rfl ?_
      refine at_getr (pc := 54) (k' := 106) C 12 fw_12_51 kd94 rfl (Nat.le_of_ble_eq_true rfl) rfl rfl dX12_lack_54 ?_
      refine at_bipush (pc := 57) C dX12_lack_57 (by decide) ?_
      refine at_iload_n (pc := 59) C 2 dX12_lack_59 rfl rfl ?_
      refine at_imul (pc := 60) C dX12_lack_60 ?_
      refine at_iload_n (pc := 61) C 3 dX12_lack_61 rfl rfl ?_
      refine at_iadd (pc := 62) C dX12_lack_62 ?_
      obtain ⟨b10, hF⟩ := inb_some hF
      refine at_iaload (pc := 63) C kd106 b10 dX12_lack_63 ?_
      refine at_iload_n (pc := 64) C 4 dX12_lack_64 rfl rfl ?_
      refine at_icmp_le (pc := 65) (tgt := 84) C (okq9 106 (ja (jm 12 v1) v2)) h3 dX12_lack_65 rfl (fun c11 => ?_) (fun c11 => ?_)
      · have hF := (if_pos c11).symm.trans hF
        refine at_iconst (pc := 84) C dX12_lack_84 ?_
        refine at_sub (lv' := [(0, vr g 94), (4, vi q7.1)]) [1, 0] rfl ?_
        exact J85 q7.1 (ja (jm 12 v1) v2) 0 q9 tq7 (ja_R (jm 12 v1) v2) (isB.r (Or.inl rfl)) okq9 hF
      · have hF := (if_neg c11).symm.trans hF
        refine at_aload_n (pc := 68) C 1 dX12_lack_68 rfl rfl ?_
        refine at_getr (pc := 69) (k' := 106) C 12 fw_12_51 kd94 rfl (Nat.le_of_ble_eq_true rfl) rfl rfl dX12_lack_69 ?_
        refine at_bipush (pc := 72) C dX12_lack_72 (by decide) ?_
        refine at_iload_n (pc := 74) C 2 dX12_lack_74 rfl rfl ?_
        refine at_imul (pc := 75) C dX12_lack_75 ?_
        refine at_iload_n (pc := 76) C 3 dX12_lack_76 rfl rfl ?_
        refine at_iadd (pc := 77) C dX12_lack_77 ?_
        refine at_iaload (pc := 78) C kd106 b10 dX12_lack_78 ?_
        refine at_iload_n (pc := 79) C 4 dX12_lack_79 rfl rfl ?_
        refine at_isub (pc := 80) C dX12_lack_80 ?_
        refine at_goto (pc := 81) (tgt := 85) C dX12_lack_81 rfl ?_
        refine at_sub (lv' := [(0, vr g 94), (4, vi q7.1)]) [1, 0] rfl ?_
        exact J85 q7.1 (ja (jm 12 v1) v2) (js (q9.1 106 (ja (jm 12 v1) v2)) v3) q9 tq7 (ja_R (jm 12 v1) v2) (js_R (q9.1 106 (ja (jm 12 v1) v2)) v3) okq9 hF
    · have hF := (if_pos c4).symm.trans hF
      refine at_iconst (pc := 24) C dX12_lack_24 ?_
      obtain rfl := Option.some.inj hF
      exact at_iret (pc := 25) C hr hlk (show inR (-1) from ⟨by decide, by decide⟩) (OK_up (k := 94) (j := 2) ok (isB.r (Or.inl rfl))) dX12_lack_25
abbrev rm_X12_byGateOf : Room := { frames := 5, cells := 0, slots := 0, locals := 122 }
def F_X12_byGateOf (N : Nat) (v1 : Int) (σ : Sto) : Option (Int × Sto) :=
  (F_X12_laysAll N v1 0 σ).bind (fun q1 => (F_X12_relieves N q1).bind (fun q2 => some (q2.1, q2.2)))
set_option maxHeartbeats 4000000 in
set_option maxRecDepth 100000 in
theorem c_X12_byGateOf (l : Launch) (g : Geo) (N : Nat) (v1 : Int) (σ : Sto) (res : Int × Sto) (h1 : inR v1) (ok : OK σ) (hF : F_X12_byGateOf N v1 σ = some res) : MtI l g yX12_byGateOf cX12_byGateOf 2 (some .int) rm_X12_byGateOf [vr g 94, vi v1] σ res.1 res.2 inR := by
  intro sz
  refine Met.ofAt (own := RX12) (QQ := fun z => QI g z res.1 res.2 inR) (by decide +kernel) (Nat.le_of_ble_eq_true rfl) rfl ?_
  intro p e s m args below meth c C hr hlk
  show At p l e rm_X12_byGateOf s m args below meth c 0 0 g 2 (MQ below (QI g s.heap.size res.1 res.2 inR) args s 0 0 (AA g s.heap.size)) 0 [(0, vr g 94), (1, vi v1)] [] σ
  unfold F_X12_byGateOf at hF
  refine at_aload_n (pc := 0) C 0 dX12_byGateOf_0 rfl rfl ?_
  refine at_iload_n (pc := 1) C 1 dX12_byGateOf_1 rfl rfl ?_
  refine at_iconst (pc := 2) C dX12_byGateOf_2 ?_
  obtain ⟨q1, eq1, hF⟩ := bind_some' hF
  refine at_callVv (pc := 3) (ci := 12) C (c_X12_laysAll l g N v1 0 σ q1 h1 (Or.inl rfl) ok eq1) kv_X12_laysAll w1687 kd94 rfl rfl rfl rfl (Nat.le_of_ble_eq_true rfl) ⟨rfl, rfl, (Nat.le_of_ble_eq_true rfl), (Nat.le_of_ble_eq_true rfl)⟩ dX12_byGateOf_3 (fun okq1 => ?_)
  refine at_aload_n (pc := 6) C 0 dX12_byGateOf_6 rfl rfl ?_
  obtain ⟨q2, eq2, hF⟩ := bind_some' hF
  refine at_callV (pc := 7) (ci := 12) C (c_X12_relieves l g N  q1 q2  okq1 eq2) kv_X12_relieves w1691 kd94 rfl rfl rfl rfl (Nat.le_of_ble_eq_true rfl) ⟨rfl, rfl, (Nat.le_of_ble_eq_true rfl), (Nat.le_of_ble_eq_true rfl)⟩ dX12_byGateOf_7 (fun tq2 okq2 => ?_)
  obtain rfl := Option.some.inj hF
  exact at_iret (pc := 10) C hr hlk tq2 okq2 dX12_byGateOf_10
abbrev rm_X12_byCarry : Room := { frames := 6, cells := 0, slots := 0, locals := 143 }
def F_X12_byCarry (N : Nat) (v1 : Int) (σ : Sto) : Option (Int × Sto) :=
  (F_X12_isIn N v1 0 1 (upI σ 94 2 0)).bind (fun q1 => if q1 = 0 then (some ((-1), (upI σ 94 2 0))) else (inb 0 8 ((F_X12_byGateOf N ((upI (upI σ 94 2 0) 94 33 v1).1 100 0) (upI (upI σ 94 2 0) 94 33 v1)).bind (fun q4 => inb 3 8 (some (q4.1, (upI q4.2 94 33 (q4.2.1 100 3))))))))
set_option maxHeartbeats 4000000 in
set_option maxRecDepth 100000 in
theorem c_X12_byCarry (l : Launch) (g : Geo) (N : Nat) (v1 : Int) (σ : Sto) (res : Int × Sto) (h1 : inR v1) (ok : OK σ) (hF : F_X12_byCarry N v1 σ = some res) : MtI l g yX12_byCarry cX12_byCarry 3 (some .int) rm_X12_byCarry [vr g 94, vi v1] σ res.1 res.2 inR := by
  intro sz
  refine Met.ofAt (own := RX12) (QQ := fun z => QI g z res.1 res.2 inR) (by decide +kernel) (Nat.le_of_ble_eq_true rfl) rfl ?_
  intro p e s m args below meth c C hr hlk
  show At p l e rm_X12_byCarry s m args below meth c 0 0 g 3 (MQ below (QI g s.heap.size res.1 res.2 inR) args s 0 0 (AA g s.heap.size)) 0 [(0, vr g 94), (1, vi v1)] [] σ
  unfold F_X12_byCarry at hF
  refine at_aload_n (pc := 0) C 0 dX12_byCarry_0 rfl rfl ?_
  refine at_iconst (pc := 1) C dX12_byCarry_1 ?_
  refine at_puti (pc := 2) (jz := 2) C fu_12_81 kd94 rfl (Nat.le_of_ble_eq_true rfl) rfl rfl dX12_byCarry_2 ?_
  refine at_iload_n (pc := 5) C 1 dX12_byCarry_5 rfl rfl ?_
  refine at_iconst (pc := 6) C dX12_byCarry_6 ?_
  refine at_iconst (pc := 7) C dX12_byCarry_7 ?_
  obtain ⟨q1, eq1, hF⟩ := bind_some' hF
  refine at_callS (pc := 8) C (c_X12_isIn l g N v1 0 1 (upI σ 94 2 0) q1 h1 (isB.r (Or.inl rfl)) (isB.r (Or.inr rfl)) (OK_up (k := 94) (j := 2) ok (isB.r (Or.inl rfl))) eq1) ks_X12_isIn w1525 rfl rfl (Nat.le_of_ble_eq_true rfl) ⟨rfl, rfl, (Nat.le_of_ble_eq_true rfl), (Nat.le_of_ble_eq_true rfl)⟩ dX12_byCarry_8 (fun tq1 okq1 => ?_)
  refine at_if_ne (pc := 11) (tgt := 16) C (isB.r tq1) dX12_byCarry_11 rfl (fun c2 => ?_) (fun c2 => ?_)
  · have hF := (if_neg c2).symm.trans hF
    refine at_aload_n (pc := 16) C 0 dX12_byCarry_16 rfl rfl ?_
    refine at_iload_n (pc := 17) C 1 dX12_byCarry_17 rfl rfl ?_
    refine at_puti (pc := 18) (jz := 33) C fu_12_145 kd94 rfl (Nat.le_of_ble_eq_true rfl) rfl rfl dX12_byCarry_18 ?_
    refine at_aload_n (pc := 21) C 0 dX12_byCarry_21 rfl rfl ?_
    refine at_aload_n (pc := 22) C 0 dX12_byCarry_22 rfl rfl ?_
    refine at_getr (pc := 23) (k' := 100) C 6 fw_12_29 kd94 rfl (Nat.le_of_ble_eq_true rfl) rfl rfl dX12_byCarry_23 ?_
    refine at_iconst (pc := 26) C dX12_byCarry_26 ?_
    obtain ⟨b3, hF⟩ := inb_some hF
    refine at_iaload (pc := 27) C kd100 b3 dX12_byCarry_27 ?_
    obtain ⟨q4, eq4, hF⟩ := bind_some' hF
    refine at_callV (pc := 28) (ci := 12) C (c_X12_byGateOf l g N ((upI (upI σ 94 2 0) 94 33 v1).1 100 0) (upI (upI σ 94 2 0) 94 33 v1) q4 ((OK_up (k := 94) (j := 33) (OK_up (k := 94) (j := 2) ok (isB.r (Or.inl rfl))) h1) 100 0) (OK_up (k := 94) (j := 33) (OK_up (k := 94) (j := 2) ok (isB.r (Or.inl rfl))) h1) eq4) kv_X12_byGateOf w1877 kd94 rfl rfl rfl rfl (Nat.le_of_ble_eq_true rfl) ⟨rfl, rfl, (Nat.le_of_ble_eq_true rfl), (Nat.le_of_ble_eq_true rfl)⟩ dX12_byCarry_28 (fun tq4 okq4 => ?_)
    refine at_istore_n (pc := 31) (lv' := [(2, vi q4.1), (0, vr g 94), (1, vi v1)]) C dX12_byCarry_31 rfl (Nat.le_of_ble_eq_true rfl) rfl ?_
    refine at_aload_n (pc := 32) C 1 dX12_byCarry_32 rfl rfl ?_
    refine at_aload_n (pc := 33) C 1 dX12_byCarry_33 rfl rfl ?_
    refine at_getr (pc := 34) (k' := 100) C 6 fw_12_29 kd94 rfl (Nat.le_of_ble_eq_true rfl) rfl rfl dX12_byCarry_34 ?_
    refine at_iconst (pc := 37) C dX12_byCarry_37 ?_
    obtain ⟨b5, hF⟩ := inb_some hF
    refine at_iaload (pc := 38) C kd100 b5 dX12_byCarry_38 ?_
    refine at_puti (pc := 39) (jz := 33) C fu_12_145 kd94 rfl (Nat.le_of_ble_eq_true rfl) rfl rfl dX12_byCarry_39 ?_
    refine at_iload_n (pc := 42) C 0 dX12_byCarry_42 rfl rfl ?_
    obtain rfl := Option.some.inj hF
    exact at_iret (pc := 43) C hr hlk tq4 (OK_up (k := 94) (j := 33) okq4 (okq4 100 3)) dX12_byCarry_43
  · have hF := (if_pos c2).symm.trans hF
    refine at_iconst (pc := 14) C dX12_byCarry_14 ?_
    obtain rfl := Option.some.inj hF
    exact at_iret (pc := 15) C hr hlk (show inR (-1) from ⟨by decide, by decide⟩) (OK_up (k := 94) (j := 2) ok (isB.r (Or.inl rfl))) dX12_byCarry_15
abbrev rm_X12_carried : Room := { frames := 6, cells := 0, slots := 0, locals := 142 }
def F_X12_carried_J153 (N : Nat) (nx102 : (Int × Int) → Option (Int × Sto)) (v1 : Int) (v3 : Int) (t0 : Int) (t1 : Int) (σ : Sto) : Option (Int × Sto) :=
  nx102 ((ja t0 t1), (ja v3 1))
def F_X12_carried_J152 (N : Nat) (nx102 : (Int × Int) → Option (Int × Sto)) (v1 : Int) (v3 : Int) (t0 : Int) (σ : Sto) : Option (Int × Sto) :=
  F_X12_carried_J153 N nx102 v1 v3 t0 0 σ
def F_X12_carried_J140 (N : Nat) (nx102 : (Int × Int) → Option (Int × Sto)) (v1 : Int) (v3 : Int) (t0 : Int) (t1 : Int) (t2 : Int) (σ : Sto) : Option (Int × Sto) :=
  if t1 = t2 then (inb v3 144 (F_X12_carried_J153 N nx102 v1 v3 t0 (σ.1 107 v3) σ)) else (F_X12_carried_J152 N nx102 v1 v3 t0 σ)
def F_X12_carried_B102 (N : Nat) (nx102 : (Int × Int) → Option (Int × Sto)) (v1 : Int) (v2 : Int) (v3 : Int) (σ : Sto) : Option (Int × Sto) :=
  if 144 ≤ v3 then (some (v2, σ)) else (inb v3 144 (if (σ.1 107 v3) ≤ 0 then (F_X12_carried_J152 N nx102 v1 v3 v2 σ) else ((F_X12_isCarry N (jdiv v3 12) (jrem v3 12) σ).bind (fun q10 => if v1 = 0 then (F_X12_carried_J140 N nx102 v1 v3 v2 q10 1 σ) else (F_X12_carried_J140 N nx102 v1 v3 v2 q10 0 σ)))))
def F_X12_carried_J85 (N : Nat) (nx25 : (Int × Int) → Option (Int × Sto)) (v1 : Int) (v3 : Int) (t0 : Int) (t1 : Int) (σ : Sto) : Option (Int × Sto) :=
  nx25 ((ja t0 t1), (ja v3 1))
def F_X12_carried_J70 (N : Nat) (nx25 : (Int × Int) → Option (Int × Sto)) (v1 : Int) (v3 : Int) (v4 : Int) (t0 : Int) (t1 : Int) (t2 : Int) (σ : Sto) : Option (Int × Sto) :=
  if t1 = t2 then ((F_X12_of N (ja v4 2) σ).bind (fun q15 => F_X12_carried_J85 N nx25 v1 v3 t0 q15 σ)) else (F_X12_carried_J85 N nx25 v1 v3 t0 0 σ)
def F_X12_carried_B25 (N : Nat) (nx25 : (Int × Int) → Option (Int × Sto)) (v1 : Int) (v2 : Int) (v3 : Int) (σ : Sto) : Option (Int × Sto) :=
  (F_X12_of N 0 σ).bind (fun q12 => if q12 ≤ v3 then (some (v2, σ)) else ((F_X12_of N (ja 1 (jm 3 v3)) σ).bind (fun q16 => (F_X12_of N (ja (ja 1 (jm 3 v3)) 1) σ).bind (fun q17 => (F_X12_isCarry N q16 q17 σ).bind (fun q18 => if v1 = 2 then (F_X12_carried_J70 N nx25 v1 v3 (ja 1 (jm 3 v3)) v2 q18 1 σ) else (F_X12_carried_J70 N nx25 v1 v3 (ja 1 (jm 3 v3)) v2 q18 0 σ))))))
def F_X12_carried (N : Nat) (v1 : Int) (σ : Sto) : Option (Int × Sto) :=
  (F_X12_isIn N v1 0 3 (upI σ 94 2 0)).bind (fun q1 => if q1 = 0 then (some ((-1), (upI σ 94 2 0))) else (if v1 ≤ 1 then ((F_X12_solves N (upI σ 94 2 0)).bind (fun q4 => loopK (fun q nx102 => F_X12_carried_B102 N  nx102 v1 q.1 q.2 q4.2) N (0, 0))) else (loopK (fun q nx25 => F_X12_carried_B25 N  nx25 v1 q.1 q.2 (upI σ 94 2 0)) N (0, 0))))
set_option maxHeartbeats 4000000 in
set_option maxRecDepth 100000 in
theorem c_X12_carried (l : Launch) (g : Geo) (N : Nat) (v1 : Int) (σ : Sto) (res : Int × Sto) (h1 : inR v1) (ok : OK σ) (hF : F_X12_carried N v1 σ = some res) : MtI l g yX12_carried cX12_carried 5 (some .int) rm_X12_carried [vr g 94, vi v1] σ res.1 res.2 inR := by
  intro sz
  refine Met.ofAt (own := RX12) (QQ := fun z => QI g z res.1 res.2 inR) (by decide +kernel) (Nat.le_of_ble_eq_true rfl) rfl ?_
  intro p e s m args below meth c C hr hlk
  show At p l e rm_X12_carried s m args below meth c 0 0 g 5 (MQ below (QI g s.heap.size res.1 res.2 inR) args s 0 0 (AA g s.heap.size)) 0 [(0, vr g 94), (1, vi v1)] [] σ
  unfold F_X12_carried at hF
  refine at_aload_n (pc := 0) C 0 dX12_carried_0 rfl rfl ?_
  refine at_iconst (pc := 1) C dX12_carried_1 ?_
  refine at_puti (pc := 2) (jz := 2) C fu_12_81 kd94 rfl (Nat.le_of_ble_eq_true rfl) rfl rfl dX12_carried_2 ?_
  refine at_iload_n (pc := 5) C 1 dX12_carried_5 rfl rfl ?_
  refine at_iconst (pc := 6) C dX12_carried_6 ?_
  refine at_iconst (pc := 7) C dX12_carried_7 ?_
  obtain ⟨q1, eq1, hF⟩ := bind_some' hF
  refine at_callS (pc := 8) C (c_X12_isIn l g N v1 0 3 (upI σ 94 2 0) q1 h1 (isB.r (Or.inl rfl)) (show inR 3 from ⟨by decide, by decide⟩) (OK_up (k := 94) (j := 2) ok (isB.r (Or.inl rfl))) eq1) ks_X12_isIn w1525 rfl rfl (Nat.le_of_ble_eq_true rfl) ⟨rfl, rfl, (Nat.le_of_ble_eq_true rfl), (Nat.le_of_ble_eq_true rfl)⟩ dX12_carried_8 (fun tq1 okq1 => ?_)
  refine at_if_ne (pc := 11) (tgt := 16) C (isB.r tq1) dX12_carried_11 rfl (fun c2 => ?_) (fun c2 => ?_)
  · have hF := (if_neg c2).symm.trans hF
    refine at_iconst (pc := 16) C dX12_carried_16 ?_
    refine at_istore_n (pc := 17) (lv' := [(2, vi 0), (0, vr g 94), (1, vi v1)]) C dX12_carried_17 rfl (Nat.le_of_ble_eq_true rfl) rfl ?_
    refine at_iload_n (pc := 18) C 2 dX12_carried_18 rfl rfl ?_
    refine at_iconst (pc := 19) C dX12_carried_19 ?_
    refine at_icmp_le (pc := 20) (tgt := 95) C h1 (isB.r (Or.inr rfl)) dX12_carried_20 rfl (fun c3 => ?_) (fun c3 => ?_)
    · have hF := (if_pos c3).symm.trans hF
      refine at_aload_n (pc := 95) C 1 dX12_carried_95 rfl rfl ?_
      obtain ⟨q4, eq4, hF⟩ := bind_some' hF
      refine at_callV (pc := 96) (ci := 12) C (c_X12_solves l g N  (upI σ 94 2 0) q4  (OK_up (k := 94) (j := 2) ok (isB.r (Or.inl rfl))) eq4) kv_X12_solves w1683 kd94 rfl rfl rfl rfl (Nat.le_of_ble_eq_true rfl) ⟨rfl, rfl, (Nat.le_of_ble_eq_true rfl), (Nat.le_of_ble_eq_true rfl)⟩ dX12_carried_96 (fun tq4 okq4 => ?_)
      refine at_pop (pc := 99) C dX12_carried_99 rfl ?_
      refine at_iconst (pc := 100) C dX12_carried_100 ?_
      refine at_istore_n (pc := 101) (lv' := [(3, vi 0), (2, vi 0), (0, vr g 94), (1, vi v1)]) C dX12_carried_101 rfl (Nat.le_of_ble_eq_true rfl) rfl ?_
      have L102 : ∀ (v1 : Int) (v2 : Int) (v3 : Int) (σ : Sto), inR v1 → inR v2 → inR v3 → OK σ → loopK (fun q nx102 => F_X12_carried_B102 N  nx102 v1 q.1 q.2 σ) N (v2, v3) = some res → At p l e rm_X12_carried s m args below meth c 0 0 g 5 (MQ below (QI g s.heap.size res.1 res.2 inR) args s 0 0 (AA g s.heap.size)) 102 [(0, vr g 94), (1, vi v1), (2, vi v2), (3, vi v3)] [] σ := by
        intro v1 v2 v3 σ h1 h2 h3 ok hF
        refine loopK_ind (res := res) (P := fun (q : Int × Int) => inR q.1 → inR q.2 → At p l e rm_X12_carried s m args below meth c 0 0 g 5 (MQ below (QI g s.heap.size res.1 res.2 inR) args s 0 0 (AA g s.heap.size)) 102 [(0, vr g 94), (1, vi v1), (2, vi q.1), (3, vi q.2)] [] σ) ?_ N _ hF h2 h3
        intro nx102 q ih102 hF
        obtain ⟨v2, v3⟩ := q
        intro h2 h3
        have hF : F_X12_carried_B102 N  nx102 v1 v2 v3 σ = some res := hF
        unfold F_X12_carried_B102 at hF
        refine at_iload_n (pc := 102) C 3 dX12_carried_102 rfl rfl ?_
        refine at_sipush (pc := 103) C dX12_carried_103 (by decide) ?_
        refine at_icmp_ge (pc := 106) (tgt := 161) C h3 (show inR 144 from ⟨by decide, by decide⟩) dX12_carried_106 rfl (fun c5 => ?_) (fun c5 => ?_)
        · have hF := (if_pos c5).symm.trans hF
          refine at_iload_n (pc := 161) C 2 dX12_carried_161 rfl rfl ?_
          obtain rfl := Option.some.inj hF
          exact at_iret (pc := 162) C hr hlk h2 ok dX12_carried_162
        · have hF := (if_neg c5).symm.trans hF
          have J153 : ∀ (v3 : Int) (t0 : Int) (t1 : Int), inR v3 → inR t0 → inR t1 → F_X12_carried_J153 N nx102 v1 v3 t0 t1 σ = some res → At p l e rm_X12_carried s m args below meth c 0 0 g 5 (MQ below (QI g s.heap.size res.1 res.2 inR) args s 0 0 (AA g s.heap.size)) 153 [(0, vr g 94), (1, vi v1), (3, vi v3)] [vi t1, vi t0] σ := by
            intro v3 t0 t1 h3 ht0 ht1 hF
            unfold F_X12_carried_J153 at hF
            refine at_iadd (pc := 153) C dX12_carried_153 ?_
            refine at_istore_n (pc := 154) (lv' := [(2, vi (ja t0 t1)), (0, vr g 94), (1, vi v1), (3, vi v3)]) C dX12_carried_154 rfl (Nat.le_of_ble_eq_true rfl) rfl ?_
            refine at_iinc (pc := 155) (lv' := [(3, vi (ja v3 1)), (2, vi (ja t0 t1)), (0, vr g 94), (1, vi v1)]) C 3 dX12_carried_155 rfl (Nat.le_of_ble_eq_true rfl) rfl ?_
            refine at_goto (pc := 158) (tgt := 102) C dX12_carried_158 rfl ?_
            refine at_sub (lv' := [(0, vr g 94), (1, vi v1), (2, vi (ja t0 t1)), (3, vi (ja v3 1))]) [2, 3, 1, 0] rfl ?_
            exact ih102 _ hF (ja_R t0 t1) (ja_R v3 1)
          have J152 : ∀ (v3 : Int) (t0 : Int), inR v3 → inR t0 → F_X12_carried_J152 N nx102 v1 v3 t0 σ = some res → At p l e rm_X12_carried s m args below meth c 0 0 g 5 (MQ below (QI g s.heap.size res.1 res.2 inR) args s 0 0 (AA g s.heap.size)) 152 [(0, vr g 94), (1, vi v1), (3, vi v3)] [vi t0] σ := by
            intro v3 t0 h3 ht0 hF
            unfold F_X12_carried_J152 at hF
            refine at_iconst (pc := 152) C dX12_carried_152 ?_
            exact J153 v3 t0 0 h3 ht0 (isB.r (Or.inl rfl)) hF
          refine at_iload_n (pc := 109) C 2 dX12_carried_109 rfl rfl ?_
          refine at_aload_n (pc := 110) C 0 dX12_carried_110 rfl rfl ?_
          refine at_getr (pc := 111) (k' := 107) C 13 fw_12_54 kd94 rfl (Nat.le_of_ble_eq_true rfl) rfl rfl dX12_carried_111 ?_
          refine at_iload_n (pc := 114) C 3 dX12_carried_114 rfl rfl ?_
          obtain ⟨b6, hF⟩ := inb_some hF
          refine at_iaload (pc := 115) C kd107 b6 dX12_carried_115 ?_
          refine at_if_le (pc := 116) (tgt := 152) C (ok 107 v3) dX12_carried_116 rfl (fun c7 => ?_) (fun c7 => ?_)
          · have hF := (if_pos c7).symm.trans hF
            refine at_sub (lv' := [(0, vr g 94), (1, vi v1), (3, vi v3)]) [0, 1, 3] rfl ?_
            exact J152 v3 v2 h3 h2 hF
          · have hF := (if_neg c7).symm.trans hF
            have J140 : ∀ (v3 : Int) (t0 : Int) (t1 : Int) (t2 : Int), inR v3 → inR t0 → isB t1 → isB t2 → F_X12_carried_J140 N nx102 v1 v3 t0 t1 t2 σ = some res → At p l e rm_X12_carried s m args below meth c 0 0 g 5 (MQ below (QI g s.heap.size res.1 res.2 inR) args s 0 0 (AA g s.heap.size)) 140 [(0, vr g 94), (1, vi v1), (3, vi v3)] [vi t2, vi t1, vi t0] σ := by
              intro v3 t0 t1 t2 h3 ht0 ht1 ht2 hF
              unfold F_X12_carried_J140 at hF
              refine at_icmp_ne (pc := 140) (tgt := 152) C (isB.r ht1) (isB.r ht2) dX12_carried_140 rfl (fun c8 => ?_) (fun c8 => ?_)
              · have hF := (if_neg c8).symm.trans hF
                exact J152 v3 t0 h3 ht0 hF
              · have hF := (if_pos c8).symm.trans hF
                refine at_aload_n (pc := 143) C 0 dX12_carried_143 rfl rfl ?_
                refine at_getr (pc := 144) (k' := 107) C 13 fw_12_54 kd94 rfl (Nat.le_of_ble_eq_true rfl) rfl rfl dX12_carried_144 ?_
                refine at_iload_n (pc := 147) C 2 dX12_carried_147 rfl rfl ?_
                obtain ⟨b9, hF⟩ := inb_some hF
                refine at_iaload (pc := 148) C kd107 b9 dX12_carried_148 ?_
                refine at_goto (pc := 149) (tgt := 153) C dX12_carried_149 rfl ?_
                exact J153 v3 t0 (σ.1 107 v3) h3 ht0 (ok 107 v3) hF
            refine at_aload_n (pc := 119) C 0 dX12_carried_119 rfl rfl ?_
            refine at_iload_n (pc := 120) C 3 dX12_carried_120 rfl rfl ?_
            refine at_bipush (pc := 121) C dX12_carried_121 (by decide) ?_
            refine at_idiv (pc := 123) C dX12_carried_123 (show inR 12 from ⟨by decide, by decide⟩) (by decide) ?_
            refine at_iload_n (pc := 124) C 3 dX12_carried_124 rfl rfl ?_
            refine at_bipush (pc := 125) C dX12_carried_125 (by decide) ?_
            refine at_irem (pc := 127) C dX12_carried_127 (show inR 12 from ⟨by decide, by decide⟩) (by decide) ?_
            obtain ⟨q10, eq10, hF⟩ := bind_some' hF
            refine at_callV (pc := 128) (ci := 12) C (c_X12_isCarry l g N (jdiv v3 12) (jrem v3 12) σ q10 (jdiv_R v3 12) (jrem_R v3 12) ok eq10) kv_X12_isCarry w1589 kd94 rfl rfl rfl rfl (Nat.le_of_ble_eq_true rfl) ⟨rfl, rfl, (Nat.le_of_ble_eq_true rfl), (Nat.le_of_ble_eq_true rfl)⟩ dX12_carried_128 (fun tq10 okq10 => ?_)
            refine at_iload_n (pc := 131) C 1 dX12_carried_131 rfl rfl ?_
            refine at_if_ne (pc := 132) (tgt := 139) C h1 dX12_carried_132 rfl (fun c11 => ?_) (fun c11 => ?_)
            · have hF := (if_neg c11).symm.trans hF
              refine at_iconst (pc := 139) C dX12_carried_139 ?_
              refine at_sub (lv' := [(0, vr g 94), (1, vi v1), (3, vi v3)]) [0, 1, 3] rfl ?_
              exact J140 v3 v2 q10 0 h3 h2 tq10 (Or.inl rfl) hF
            · have hF := (if_pos c11).symm.trans hF
              refine at_iconst (pc := 135) C dX12_carried_135 ?_
              refine at_goto (pc := 136) (tgt := 140) C dX12_carried_136 rfl ?_
              refine at_sub (lv' := [(0, vr g 94), (1, vi v1), (3, vi v3)]) [0, 1, 3] rfl ?_
              exact J140 v3 v2 q10 1 h3 h2 tq10 (Or.inr rfl) hF
      refine at_sub (lv' := [(0, vr g 94), (1, vi v1), (2, vi 0), (3, vi 0)]) [2, 3, 1, 0] rfl ?_
      exact L102 v1 0 0 q4.2 h1 (isB.r (Or.inl rfl)) (isB.r (Or.inl rfl)) okq4 hF
    · have hF := (if_neg c3).symm.trans hF
      refine at_iconst (pc := 23) C dX12_carried_23 ?_
      refine at_istore_n (pc := 24) (lv' := [(3, vi 0), (2, vi 0), (0, vr g 94), (1, vi v1)]) C dX12_carried_24 rfl (Nat.le_of_ble_eq_true rfl) rfl ?_
      have L25 : ∀ (v1 : Int) (v2 : Int) (v3 : Int) (σ : Sto), inR v1 → inR v2 → inR v3 → OK σ → loopK (fun q nx25 => F_X12_carried_B25 N  nx25 v1 q.1 q.2 σ) N (v2, v3) = some res → At p l e rm_X12_carried s m args below meth c 0 0 g 5 (MQ below (QI g s.heap.size res.1 res.2 inR) args s 0 0 (AA g s.heap.size)) 25 [(0, vr g 94), (1, vi v1), (2, vi v2), (3, vi v3)] [] σ := by
        intro v1 v2 v3 σ h1 h2 h3 ok hF
        refine loopK_ind (res := res) (P := fun (q : Int × Int) => inR q.1 → inR q.2 → At p l e rm_X12_carried s m args below meth c 0 0 g 5 (MQ below (QI g s.heap.size res.1 res.2 inR) args s 0 0 (AA g s.heap.size)) 25 [(0, vr g 94), (1, vi v1), (2, vi q.1), (3, vi q.2)] [] σ) ?_ N _ hF h2 h3
        intro nx25 q ih25 hF
        obtain ⟨v2, v3⟩ := q
        intro h2 h3
        have hF : F_X12_carried_B25 N  nx25 v1 v2 v3 σ = some res := hF
        unfold F_X12_carried_B25 at hF
        refine at_iload_n (pc := 25) C 3 dX12_carried_25 rfl rfl ?_
        refine at_aload_n (pc := 26) C 0 dX12_carried_26 rfl rfl ?_
        refine at_iconst (pc := 27) C dX12_carried_27 ?_
        obtain ⟨q12, eq12, hF⟩ := bind_some' hF
        refine at_callV (pc := 28) (ci := 12) C (c_X12_of l g N 0 σ q12 (isB.r (Or.inl rfl)) ok eq12) kv_X12_of w1565 kd94 rfl rfl rfl rfl (Nat.le_of_ble_eq_true rfl) ⟨rfl, rfl, (Nat.le_of_ble_eq_true rfl), (Nat.le_of_ble_eq_true rfl)⟩ dX12_carried_28 (fun tq12 okq12 => ?_)
        refine at_icmp_ge (pc := 31) (tgt := 93) C h3 tq12 dX12_carried_31 rfl (fun c13 => ?_) (fun c13 => ?_)
        · have hF := (if_pos c13).symm.trans hF
          refine at_iload_n (pc := 93) C 2 dX12_carried_93 rfl rfl ?_
          obtain rfl := Option.some.inj hF
          exact at_iret (pc := 94) C hr hlk h2 ok dX12_carried_94
        · have hF := (if_neg c13).symm.trans hF
          have J70 : ∀ (v3 : Int) (v4 : Int) (t0 : Int) (t1 : Int) (t2 : Int), inR v3 → inR v4 → inR t0 → isB t1 → isB t2 → F_X12_carried_J70 N nx25 v1 v3 v4 t0 t1 t2 σ = some res → At p l e rm_X12_carried s m args below meth c 0 0 g 5 (MQ below (QI g s.heap.size res.1 res.2 inR) args s 0 0 (AA g s.heap.size)) 70 [(0, vr g 94), (1, vi v1), (3, vi v3), (4, vi v4)] [vi t2, vi t1, vi t0] σ := by
            intro v3 v4 t0 t1 t2 h3 h4 ht0 ht1 ht2 hF
            unfold F_X12_carried_J70 at hF
            have J85 : ∀ (v3 : Int) (t0 : Int) (t1 : Int), inR v3 → inR t0 → inR t1 → F_X12_carried_J85 N nx25 v1 v3 t0 t1 σ = some res → At p l e rm_X12_carried s m args below meth c 0 0 g 5 (MQ below (QI g s.heap.size res.1 res.2 inR) args s 0 0 (AA g s.heap.size)) 85 [(0, vr g 94), (1, vi v1), (3, vi v3)] [vi t1, vi t0] σ := by
              intro v3 t0 t1 h3 ht0 ht1 hF
              unfold F_X12_carried_J85 at hF
              refine at_iadd (pc := 85) C dX12_carried_85 ?_
              refine at_istore_n (pc := 86) (lv' := [(2, vi (ja t0 t1)), (0, vr g 94), (1, vi v1), (3, vi v3)]) C dX12_carried_86 rfl (Nat.le_of_ble_eq_true rfl) rfl ?_
              refine at_iinc (pc := 87) (lv' := [(3, vi (ja v3 1)), (2, vi (ja t0 t1)), (0, vr g 94), (1, vi v1)]) C 3 dX12_carried_87 rfl (Nat.le_of_ble_eq_true rfl) rfl ?_
              refine at_goto (pc := 90) (tgt := 25) C dX12_carried_90 rfl ?_
              refine at_sub (lv' := [(0, vr g 94), (1, vi v1), (2, vi (ja t0 t1)), (3, vi (ja v3 1))]) [2, 3, 1, 0] rfl ?_
              exact ih25 _ hF (ja_R t0 t1) (ja_R v3 1)
            refine at_icmp_ne (pc := 70) (tgt := 84) C (isB.r ht1) (isB.r ht2) dX12_carried_70 rfl (fun c14 => ?_) (fun c14 => ?_)
            · have hF := (if_neg c14).symm.trans hF
              refine at_iconst (pc := 84) C dX12_carried_84 ?_
              refine at_sub (lv' := [(0, vr g 94), (1, vi v1), (3, vi v3)]) [0, 1, 2] rfl ?_
              exact J85 v3 t0 0 h3 ht0 (isB.r (Or.inl rfl)) hF
            · have hF := (if_pos c14).symm.trans hF
              refine at_aload_n (pc := 73) C 0 dX12_carried_73 rfl rfl ?_
              refine at_iload (pc := 74) C 3 dX12_carried_74 rfl ?_
              refine at_iconst (pc := 76) C dX12_carried_76 ?_
              refine at_iadd (pc := 77) C dX12_carried_77 ?_
              obtain ⟨q15, eq15, hF⟩ := bind_some' hF
              refine at_callV (pc := 78) (ci := 12) C (c_X12_of l g N (ja v4 2) σ q15 (ja_R v4 2) ok eq15) kv_X12_of w1565 kd94 rfl rfl rfl rfl (Nat.le_of_ble_eq_true rfl) ⟨rfl, rfl, (Nat.le_of_ble_eq_true rfl), (Nat.le_of_ble_eq_true rfl)⟩ dX12_carried_78 (fun tq15 okq15 => ?_)
              refine at_goto (pc := 81) (tgt := 85) C dX12_carried_81 rfl ?_
              refine at_sub (lv' := [(0, vr g 94), (1, vi v1), (3, vi v3)]) [0, 1, 2] rfl ?_
              exact J85 v3 t0 q15 h3 ht0 tq15 hF
          refine at_iconst (pc := 34) C dX12_carried_34 ?_
          refine at_iconst (pc := 35) C dX12_carried_35 ?_
          refine at_iload_n (pc := 36) C 3 dX12_carried_36 rfl rfl ?_
          refine at_imul (pc := 37) C dX12_carried_37 ?_
          refine at_iadd (pc := 38) C dX12_carried_38 ?_
          refine at_istore (pc := 39) (lv' := [(4, vi (ja 1 (jm 3 v3))), (0, vr g 94), (1, vi v1), (2, vi v2), (3, vi v3)]) C dX12_carried_39 (Nat.le_of_ble_eq_true rfl) rfl ?_
          refine at_iload_n (pc := 41) C 3 dX12_carried_41 rfl rfl ?_
          refine at_aload_n (pc := 42) C 1 dX12_carried_42 rfl rfl ?_
          refine at_aload_n (pc := 43) C 1 dX12_carried_43 rfl rfl ?_
          refine at_iload (pc := 44) C 0 dX12_carried_44 rfl ?_
          obtain ⟨q16, eq16, hF⟩ := bind_some' hF
          refine at_callV (pc := 46) (ci := 12) C (c_X12_of l g N (ja 1 (jm 3 v3)) σ q16 (ja_R 1 (jm 3 v3)) ok eq16) kv_X12_of w1565 kd94 rfl rfl rfl rfl (Nat.le_of_ble_eq_true rfl) ⟨rfl, rfl, (Nat.le_of_ble_eq_true rfl), (Nat.le_of_ble_eq_true rfl)⟩ dX12_carried_46 (fun tq16 okq16 => ?_)
          refine at_aload_n (pc := 49) C 1 dX12_carried_49 rfl rfl ?_
          refine at_iload (pc := 50) C 0 dX12_carried_50 rfl ?_
          refine at_iconst (pc := 52) C dX12_carried_52 ?_
          refine at_iadd (pc := 53) C dX12_carried_53 ?_
          obtain ⟨q17, eq17, hF⟩ := bind_some' hF
          refine at_callV (pc := 54) (ci := 12) C (c_X12_of l g N (ja (ja 1 (jm 3 v3)) 1) σ q17 (ja_R (ja 1 (jm 3 v3)) 1) ok eq17) kv_X12_of w1565 kd94 rfl rfl rfl rfl (Nat.le_of_ble_eq_true rfl) ⟨rfl, rfl, (Nat.le_of_ble_eq_true rfl), (Nat.le_of_ble_eq_true rfl)⟩ dX12_carried_54 (fun tq17 okq17 => ?_)
          obtain ⟨q18, eq18, hF⟩ := bind_some' hF
          refine at_callV (pc := 57) (ci := 12) C (c_X12_isCarry l g N q16 q17 σ q18 tq16 tq17 ok eq18) kv_X12_isCarry w1589 kd94 rfl rfl rfl rfl (Nat.le_of_ble_eq_true rfl) ⟨rfl, rfl, (Nat.le_of_ble_eq_true rfl), (Nat.le_of_ble_eq_true rfl)⟩ dX12_carried_57 (fun tq18 okq18 => ?_)
          refine at_iload_n (pc := 60) C 2 dX12_carried_60 rfl rfl ?_
          refine at_iconst (pc := 61) C dX12_carried_61 ?_
          refine at_icmp_ne (pc := 62) (tgt := 69) C h1 (show inR 2 from ⟨by decide, by decide⟩) dX12_carried_62 rfl (fun c19 => ?_) (fun c19 => ?_)
          · have hF := (if_neg c19).symm.trans hF
            refine at_iconst (pc := 69) C dX12_carried_69 ?_
            refine at_sub (lv' := [(0, vr g 94), (1, vi v1), (3, vi v3), (4, vi (ja 1 (jm 3 v3)))]) [1, 2, 4, 0] rfl ?_
            exact J70 v3 (ja 1 (jm 3 v3)) v2 q18 0 h3 (ja_R 1 (jm 3 v3)) h2 tq18 (Or.inl rfl) hF
          · have hF := (if_pos c19).symm.trans hF
            refine at_iconst (pc := 65) C dX12_carried_65 ?_
            refine at_goto (pc := 66) (tgt := 70) C dX12_carried_66 rfl ?_
            refine at_sub (lv' := [(0, vr g 94), (1, vi v1), (3, vi v3), (4, vi (ja 1 (jm 3 v3)))]) [1, 2, 4, 0] rfl ?_
            exact J70 v3 (ja 1 (jm 3 v3)) v2 q18 1 h3 (ja_R 1 (jm 3 v3)) h2 tq18 (Or.inr rfl) hF
      refine at_sub (lv' := [(0, vr g 94), (1, vi v1), (2, vi 0), (3, vi 0)]) [2, 3, 1, 0] rfl ?_
      exact L25 v1 0 0 (upI σ 94 2 0) h1 (isB.r (Or.inl rfl)) (isB.r (Or.inl rfl)) (OK_up (k := 94) (j := 2) ok (isB.r (Or.inl rfl))) hF
  · have hF := (if_pos c2).symm.trans hF
    refine at_iconst (pc := 14) C dX12_carried_14 ?_
    obtain rfl := Option.some.inj hF
    exact at_iret (pc := 15) C hr hlk (show inR (-1) from ⟨by decide, by decide⟩) (OK_up (k := 94) (j := 2) ok (isB.r (Or.inl rfl))) dX12_carried_15
