abbrev rm_X1_run : Room := { frames := 4, cells := 0, slots := 0, locals := 94 }
def F_X1_run_J70 (N : Nat) (nx43 : (Int × Int × Sto) → Option (Sto)) (v0 : Nat) (v1 : Int) (v2 : Int) (σ : Sto) : Option (Sto) :=
  nx43 (v1, (ja v2 1), σ)
def F_X1_run_B43 (N : Nat) (nx43 : (Int × Int × Sto) → Option (Sto)) (v0 : Nat) (v1 : Int) (v2 : Int) (σ : Sto) : Option (Sto) :=
  if 1000000 ≤ v2 then (some σ) else (if v1 = 0 then (some σ) else ((F_X1_measure N v0 σ).bind (fun q3 => (F_X1_findRoute N v0 q3).bind (fun q4 => if q4.1 = 0 then (F_X1_run_J70 N nx43 v0 q4.1 v2 q4.2) else ((F_X1_takeRoute N v0 q4.2).bind (fun q6 => F_X1_run_J70 N nx43 v0 q4.1 v2 q6))))))
def F_X1_run_J24 (N : Nat)  (v0 : Nat) (σ : Sto) : Option (Sto) :=
  loopK (fun q nx43 => F_X1_run_B43 N  nx43 v0 q.1 q.2.1 q.2.2) N (1, 0, (upI (upI (upI σ v0 10 0) v0 12 0) v0 13 0))
def F_X1_run_B2 (N : Nat) (nx2 : (Int × Sto) → Option (Sto)) (v0 : Nat) (v1 : Int) (σ : Sto) : Option (Sto) :=
  if 144 ≤ v1 then (F_X1_run_J24 N  v0 σ) else (inb v1 144 (nx2 ((ja v1 1), (upI σ (v0 + 5) v1 0))))
def F_X1_run (N : Nat) (v0 : Nat) (σ : Sto) : Option (Sto) :=
  loopK (fun q nx2 => F_X1_run_B2 N  nx2 v0 q.1 q.2) N (0, σ)
set_option maxHeartbeats 4000000 in
set_option maxRecDepth 100000 in
theorem c_X1_run (l : Launch) (g : Geo) (N : Nat) (v0 : Nat) (σ : Sto) (res : Sto) (hk0 : knd v0 = (11, 14)) (ok : OK σ) (hF : F_X1_run N v0 σ = some res) : MtV l g yX1_run cX1_run 3 none rm_X1_run [vr g v0] σ res := by
  intro sz
  refine Met.ofAt (own := RX1) (QQ := fun z => QV g z res) (by decide +kernel) (Nat.le_of_ble_eq_true rfl) rfl ?_
  intro p e s m args below meth c C hr hlk
  show At p l e rm_X1_run s m args below meth c 0 0 g 3 (MQ below (QV g s.heap.size res) args s 0 0 (AA g s.heap.size)) 0 [(0, vr g v0)] [] σ
  unfold F_X1_run at hF
  refine at_iconst (pc := 0) C dX1_run_0 ?_
  refine at_istore_n (pc := 1) (lv' := [(1, vi 0), (0, vr g v0)]) C dX1_run_1 rfl (Nat.le_of_ble_eq_true rfl) rfl ?_
  have L2 : ∀ (v0 : Nat) (v1 : Int) (σ : Sto), knd v0 = (11, 14) → inR v1 → OK σ → loopK (fun q nx2 => F_X1_run_B2 N  nx2 v0 q.1 q.2) N (v1, σ) = some res → At p l e rm_X1_run s m args below meth c 0 0 g 3 (MQ below (QV g s.heap.size res) args s 0 0 (AA g s.heap.size)) 2 [(0, vr g v0), (1, vi v1)] [] σ := by
    intro v0 v1 σ hk0 h1 ok hF
    refine loopK_ind (res := res) (P := fun (q : Int × Sto) => inR q.1 → OK q.2 → At p l e rm_X1_run s m args below meth c 0 0 g 3 (MQ below (QV g s.heap.size res) args s 0 0 (AA g s.heap.size)) 2 [(0, vr g v0), (1, vi q.1)] [] q.2) ?_ N _ hF h1 ok
    intro nx2 q ih2 hF
    obtain ⟨v1, σ⟩ := q
    intro h1 ok
    have hF : F_X1_run_B2 N  nx2 v0 v1 σ = some res := hF
    unfold F_X1_run_B2 at hF
    have J24 : ∀ (v0 : Nat) (σ : Sto), knd v0 = (11, 14) → OK σ → F_X1_run_J24 N  v0 σ = some res → At p l e rm_X1_run s m args below meth c 0 0 g 3 (MQ below (QV g s.heap.size res) args s 0 0 (AA g s.heap.size)) 24 [(0, vr g v0)] [] σ := by
      intro v0 σ hk0 ok hF
      unfold F_X1_run_J24 at hF
      refine at_aload_n (pc := 24) C 0 dX1_run_24 rfl rfl ?_
      refine at_iconst (pc := 25) C dX1_run_25 ?_
      refine at_puti (pc := 26) (jz := 10) C fu_1_43 hk0 rfl (Nat.le_of_ble_eq_true rfl) rfl rfl dX1_run_26 ?_
      refine at_aload_n (pc := 29) C 0 dX1_run_29 rfl rfl ?_
      refine at_iconst (pc := 30) C dX1_run_30 ?_
      refine at_puti (pc := 31) (jz := 12) C fu_1_49 hk0 rfl (Nat.le_of_ble_eq_true rfl) rfl rfl dX1_run_31 ?_
      refine at_aload_n (pc := 34) C 0 dX1_run_34 rfl rfl ?_
      refine at_iconst (pc := 35) C dX1_run_35 ?_
      refine at_puti (pc := 36) (jz := 13) C fu_1_52 hk0 rfl (Nat.le_of_ble_eq_true rfl) rfl rfl dX1_run_36 ?_
      refine at_iconst (pc := 39) C dX1_run_39 ?_
      refine at_istore_n (pc := 40) (lv' := [(1, vi 1), (0, vr g v0)]) C dX1_run_40 rfl (Nat.le_of_ble_eq_true rfl) rfl ?_
      refine at_iconst (pc := 41) C dX1_run_41 ?_
      refine at_istore_n (pc := 42) (lv' := [(2, vi 0), (1, vi 1), (0, vr g v0)]) C dX1_run_42 rfl (Nat.le_of_ble_eq_true rfl) rfl ?_
      have L43 : ∀ (v0 : Nat) (v1 : Int) (v2 : Int) (σ : Sto), knd v0 = (11, 14) → isB v1 → inR v2 → OK σ → loopK (fun q nx43 => F_X1_run_B43 N  nx43 v0 q.1 q.2.1 q.2.2) N (v1, v2, σ) = some res → At p l e rm_X1_run s m args below meth c 0 0 g 3 (MQ below (QV g s.heap.size res) args s 0 0 (AA g s.heap.size)) 43 [(0, vr g v0), (1, vi v1), (2, vi v2)] [] σ := by
        intro v0 v1 v2 σ hk0 h1 h2 ok hF
        refine loopK_ind (res := res) (P := fun (q : Int × Int × Sto) => isB q.1 → inR q.2.1 → OK q.2.2 → At p l e rm_X1_run s m args below meth c 0 0 g 3 (MQ below (QV g s.heap.size res) args s 0 0 (AA g s.heap.size)) 43 [(0, vr g v0), (1, vi q.1), (2, vi q.2.1)] [] q.2.2) ?_ N _ hF h1 h2 ok
        intro nx43 q ih43 hF
        obtain ⟨v1, v2, σ⟩ := q
        intro h1 h2 ok
        have hF : F_X1_run_B43 N  nx43 v0 v1 v2 σ = some res := hF
        unfold F_X1_run_B43 at hF
        refine at_iload_n (pc := 43) C 2 dX1_run_43 rfl rfl ?_
        refine at_ldc (pc := 44) (n := 1000000) C dX1_run_44 w963 ?_
        refine at_icmp_ge (pc := 46) (tgt := 76) C h2 (show inR 1000000 from ⟨by decide, by decide⟩) dX1_run_46 rfl (fun c1 => ?_) (fun c1 => ?_)
        · have hF := (if_pos c1).symm.trans hF
          obtain rfl := Option.some.inj hF
          exact at_vret (pc := 76) C hr hlk ok dX1_run_76
        · have hF := (if_neg c1).symm.trans hF
          refine at_iload_n (pc := 49) C 1 dX1_run_49 rfl rfl ?_
          refine at_if_eq (pc := 50) (tgt := 76) C (isB.r h1) dX1_run_50 rfl (fun c2 => ?_) (fun c2 => ?_)
          · have hF := (if_pos c2).symm.trans hF
            obtain rfl := Option.some.inj hF
            exact at_vret (pc := 76) C hr hlk ok dX1_run_76
          · have hF := (if_neg c2).symm.trans hF
            have J70 : ∀ (v1 : Int) (v2 : Int) (σ : Sto), isB v1 → inR v2 → OK σ → F_X1_run_J70 N nx43 v0 v1 v2 σ = some res → At p l e rm_X1_run s m args below meth c 0 0 g 3 (MQ below (QV g s.heap.size res) args s 0 0 (AA g s.heap.size)) 70 [(0, vr g v0), (1, vi v1), (2, vi v2)] [] σ := by
              intro v1 v2 σ h1 h2 ok hF
              unfold F_X1_run_J70 at hF
              refine at_iinc (pc := 70) (lv' := [(2, vi (ja v2 1)), (0, vr g v0), (1, vi v1)]) C 2 dX1_run_70 rfl (Nat.le_of_ble_eq_true rfl) rfl ?_
              refine at_goto (pc := 73) (tgt := 43) C dX1_run_73 rfl ?_
              refine at_sub (lv' := [(0, vr g v0), (1, vi v1), (2, vi (ja v2 1))]) [1, 2, 0] rfl ?_
              exact ih43 _ hF h1 (ja_R v2 1) ok
            refine at_aload_n (pc := 53) C 0 dX1_run_53 rfl rfl ?_
            obtain ⟨q3, eq3, hF⟩ := bind_some' hF
            refine at_callVv (pc := 54) (ci := 1) C (c_X1_measure l g N v0 σ q3 hk0 ok eq3) kv_X1_measure w964 hk0 rfl rfl rfl rfl (Nat.le_of_ble_eq_true rfl) ⟨rfl, rfl, (Nat.le_of_ble_eq_true rfl), (Nat.le_of_ble_eq_true rfl)⟩ dX1_run_54 (fun okq3 => ?_)
            refine at_aload_n (pc := 57) C 0 dX1_run_57 rfl rfl ?_
            obtain ⟨q4, eq4, hF⟩ := bind_some' hF
            refine at_callV (pc := 58) (ci := 1) C (c_X1_findRoute l g N v0 q3 q4 hk0 okq3 eq4) kv_X1_findRoute w980 hk0 rfl rfl rfl rfl (Nat.le_of_ble_eq_true rfl) ⟨rfl, rfl, (Nat.le_of_ble_eq_true rfl), (Nat.le_of_ble_eq_true rfl)⟩ dX1_run_58 (fun tq4 okq4 => ?_)
            refine at_istore_n (pc := 61) (lv' := [(1, vi q4.1), (0, vr g v0), (2, vi v2)]) C dX1_run_61 rfl (Nat.le_of_ble_eq_true rfl) rfl ?_
            refine at_iload_n (pc := 62) C 0 dX1_run_62 rfl rfl ?_
            refine at_if_eq (pc := 63) (tgt := 70) C (isB.r tq4) dX1_run_63 rfl (fun c5 => ?_) (fun c5 => ?_)
            · have hF := (if_pos c5).symm.trans hF
              refine at_sub (lv' := [(0, vr g v0), (1, vi q4.1), (2, vi v2)]) [1, 0, 2] rfl ?_
              exact J70 q4.1 v2 q4.2 tq4 h2 okq4 hF
            · have hF := (if_neg c5).symm.trans hF
              refine at_aload_n (pc := 66) C 1 dX1_run_66 rfl rfl ?_
              obtain ⟨q6, eq6, hF⟩ := bind_some' hF
              refine at_callVv (pc := 67) (ci := 1) C (c_X1_takeRoute l g N v0 q4.2 q6 hk0 okq4 eq6) kv_X1_takeRoute w992 hk0 rfl rfl rfl rfl (Nat.le_of_ble_eq_true rfl) ⟨rfl, rfl, (Nat.le_of_ble_eq_true rfl), (Nat.le_of_ble_eq_true rfl)⟩ dX1_run_67 (fun okq6 => ?_)
              refine at_sub (lv' := [(0, vr g v0), (1, vi q4.1), (2, vi v2)]) [1, 0, 2] rfl ?_
              exact J70 q4.1 v2 q6 tq4 h2 okq6 hF
      refine at_sub (lv' := [(0, vr g v0), (1, vi 1), (2, vi 0)]) [2, 1, 0] rfl ?_
      exact L43 v0 1 0 (upI (upI (upI σ v0 10 0) v0 12 0) v0 13 0) hk0 (Or.inr rfl) (isB.r (Or.inl rfl)) (OK_up (k := v0) (j := 13) (OK_up (k := v0) (j := 12) (OK_up (k := v0) (j := 10) ok (isB.r (Or.inl rfl))) (isB.r (Or.inl rfl))) (isB.r (Or.inl rfl))) hF
    refine at_iload_n (pc := 2) C 1 dX1_run_2 rfl rfl ?_
    refine at_aload_n (pc := 3) C 0 dX1_run_3 rfl rfl ?_
    refine at_getr (pc := 4) C 5 fw_1_24 hk0 rfl (Nat.le_of_ble_eq_true rfl) rfl rfl dX1_run_4 ?_
    refine at_alen (pc := 7) (nz := 144) C (kf1_4 hk0) rfl dX1_run_7 ?_
    refine at_icmp_ge (pc := 8) (tgt := 24) C h1 (show inR 144 from ⟨by decide, by decide⟩) dX1_run_8 rfl (fun c7 => ?_) (fun c7 => ?_)
    · have hF := (if_pos c7).symm.trans hF
      refine at_sub (lv' := [(0, vr g v0)]) [0] rfl ?_
      exact J24 v0 σ hk0 ok hF
    · have hF := (if_neg c7).symm.trans hF
      refine at_aload_n (pc := 11) C 0 dX1_run_11 rfl rfl ?_
      refine at_getr (pc := 12) C 5 fw_1_24 hk0 rfl (Nat.le_of_ble_eq_true rfl) rfl rfl dX1_run_12 ?_
      refine at_iload_n (pc := 15) C 1 dX1_run_15 rfl rfl ?_
      refine at_iconst (pc := 16) C dX1_run_16 ?_
      obtain ⟨b8, hF⟩ := inb_some hF
      refine at_iastore (pc := 17) C (kf1_4 hk0) b8 dX1_run_17 ?_
      refine at_iinc (pc := 18) (lv' := [(1, vi (ja v1 1)), (0, vr g v0)]) C 1 dX1_run_18 rfl (Nat.le_of_ble_eq_true rfl) rfl ?_
      refine at_goto (pc := 21) (tgt := 2) C dX1_run_21 rfl ?_
      refine at_sub (lv' := [(0, vr g v0), (1, vi (ja v1 1))]) [1, 0] rfl ?_
      exact ih2 _ hF (ja_R v1 1) (OK_up (k := (v0 + 5)) (j := v1) ok (isB.r (Or.inl rfl)))
  refine at_sub (lv' := [(0, vr g v0), (1, vi 0)]) [1, 0] rfl ?_
  exact L2 v0 0 σ hk0 (isB.r (Or.inl rfl)) ok hF
abbrev rm_X1_totalPrice : Room := { frames := 0, cells := 0, slots := 0, locals := 0 }
def F_X1_totalPrice_J59 (N : Nat) (nx4 : (Int × Int) → Option (Int)) (v0 : Nat) (v1 : Int) (v3 : Int) (σ : Sto) : Option (Int) :=
  nx4 (v1, (ja v3 1))
def F_X1_totalPrice_B15 (N : Nat) (nx4 : (Int × Int) → Option (Int)) (nx15 : (Int × Int) → Option (Int)) (v0 : Nat) (v3 : Int) (v1 : Int) (v4 : Int) (σ : Sto) : Option (Int) :=
  if (σ.1 v0 11) ≤ v4 then (F_X1_totalPrice_J59 N nx4 v0 v1 v3 σ) else (inb (ja (jm v3 12) v4) 144 (nx15 ((jla v1 (jlm (σ.1 (v0 + 4) (ja (jm v3 12) v4)) (σ.1 (v0 + 5) (ja (jm v3 12) v4)))), (ja v4 1))))
def F_X1_totalPrice_B4 (N : Nat) (nx4 : (Int × Int) → Option (Int)) (v0 : Nat) (v1 : Int) (v3 : Int) (σ : Sto) : Option (Int) :=
  if (σ.1 v0 11) ≤ v3 then (some v1) else (loopK (fun q nx15 => F_X1_totalPrice_B15 N nx4 nx15 v0 v3 q.1 q.2 σ) N (v1, 0))
def F_X1_totalPrice (N : Nat) (v0 : Nat) (σ : Sto) : Option (Int) :=
  loopK (fun q nx4 => F_X1_totalPrice_B4 N  nx4 v0 q.1 q.2 σ) N (0, 0)
set_option maxHeartbeats 4000000 in
set_option maxRecDepth 100000 in
theorem c_X1_totalPrice (l : Launch) (g : Geo) (N : Nat) (v0 : Nat) (σ : Sto) (res : Int) (hk0 : knd v0 = (11, 14)) (ok : OK σ) (hF : F_X1_totalPrice N v0 σ = some res) : MtL l g yX1_totalPrice cX1_totalPrice 6 (some .long) rm_X1_totalPrice [vr g v0] σ res σ := by
  intro sz
  refine Met.ofAt (own := RX1) (QQ := fun z => QL g z res σ) (by decide +kernel) (Nat.le_of_ble_eq_true rfl) rfl ?_
  intro p e s m args below meth c C hr hlk
  show At p l e rm_X1_totalPrice s m args below meth c 0 0 g 6 (MQ below (QL g s.heap.size res σ) args s 0 0 (AA g s.heap.size)) 0 [(0, vr g v0)] [] σ
  unfold F_X1_totalPrice at hF
  refine at_lconst0 (pc := 0) C dX1_totalPrice_0 ?_
  refine at_lstore_n (pc := 1) (lv' := [(1, vl 0), (0, vr g v0)]) C dX1_totalPrice_1 rfl (Nat.le_of_ble_eq_true rfl) rfl ?_
  refine at_iconst (pc := 2) C dX1_totalPrice_2 ?_
  refine at_istore_n (pc := 3) (lv' := [(3, vi 0), (1, vl 0), (0, vr g v0)]) C dX1_totalPrice_3 rfl (Nat.le_of_ble_eq_true rfl) rfl ?_
  have L4 : ∀ (v0 : Nat) (v1 : Int) (v3 : Int), knd v0 = (11, 14) → inL v1 → inR v3 → loopK (fun q nx4 => F_X1_totalPrice_B4 N  nx4 v0 q.1 q.2 σ) N (v1, v3) = some res → At p l e rm_X1_totalPrice s m args below meth c 0 0 g 6 (MQ below (QL g s.heap.size res σ) args s 0 0 (AA g s.heap.size)) 4 [(0, vr g v0), (1, vl v1), (3, vi v3)] [] σ := by
    intro v0 v1 v3 hk0 h1 h3 hF
    refine loopK_ind (res := res) (P := fun (q : Int × Int) => inL q.1 → inR q.2 → At p l e rm_X1_totalPrice s m args below meth c 0 0 g 6 (MQ below (QL g s.heap.size res σ) args s 0 0 (AA g s.heap.size)) 4 [(0, vr g v0), (1, vl q.1), (3, vi q.2)] [] σ) ?_ N _ hF h1 h3
    intro nx4 q ih4 hF
    obtain ⟨v1, v3⟩ := q
    intro h1 h3
    have hF : F_X1_totalPrice_B4 N  nx4 v0 v1 v3 σ = some res := hF
    unfold F_X1_totalPrice_B4 at hF
    refine at_iload_n (pc := 4) C 2 dX1_totalPrice_4 rfl rfl ?_
    refine at_aload_n (pc := 5) C 0 dX1_totalPrice_5 rfl rfl ?_
    refine at_geti (pc := 6) (jz := 11) C fw_1_46 hk0 rfl (Nat.le_of_ble_eq_true rfl) rfl rfl dX1_totalPrice_6 ?_
    refine at_icmp_ge (pc := 9) (tgt := 65) C h3 (ok v0 11) dX1_totalPrice_9 rfl (fun c1 => ?_) (fun c1 => ?_)
    · have hF := (if_pos c1).symm.trans hF
      refine at_lload_n (pc := 65) C 1 dX1_totalPrice_65 rfl rfl ?_
      obtain rfl := Option.some.inj hF
      exact at_lret (pc := 66) C hr hlk h1 ok dX1_totalPrice_66
    · have hF := (if_neg c1).symm.trans hF
      refine at_iconst (pc := 12) C dX1_totalPrice_12 ?_
      refine at_istore (pc := 13) (lv' := [(4, vi 0), (0, vr g v0), (1, vl v1), (3, vi v3)]) C dX1_totalPrice_13 (Nat.le_of_ble_eq_true rfl) rfl ?_
      have L15 : ∀ (v1 : Int) (v3 : Int) (v4 : Int), inL v1 → inR v3 → inR v4 → loopK (fun q nx15 => F_X1_totalPrice_B15 N nx4 nx15 v0 v3 q.1 q.2 σ) N (v1, v4) = some res → At p l e rm_X1_totalPrice s m args below meth c 0 0 g 6 (MQ below (QL g s.heap.size res σ) args s 0 0 (AA g s.heap.size)) 15 [(0, vr g v0), (1, vl v1), (3, vi v3), (4, vi v4)] [] σ := by
        intro v1 v3 v4 h1 h3 h4 hF
        refine loopK_ind (res := res) (P := fun (q : Int × Int) => inL q.1 → inR q.2 → At p l e rm_X1_totalPrice s m args below meth c 0 0 g 6 (MQ below (QL g s.heap.size res σ) args s 0 0 (AA g s.heap.size)) 15 [(0, vr g v0), (1, vl q.1), (3, vi v3), (4, vi q.2)] [] σ) ?_ N _ hF h1 h4
        intro nx15 q ih15 hF
        obtain ⟨v1, v4⟩ := q
        intro h1 h4
        have hF : F_X1_totalPrice_B15 N nx4 nx15 v0 v3 v1 v4 σ = some res := hF
        unfold F_X1_totalPrice_B15 at hF
        have J59 : ∀ (v1 : Int) (v3 : Int), inL v1 → inR v3 → F_X1_totalPrice_J59 N nx4 v0 v1 v3 σ = some res → At p l e rm_X1_totalPrice s m args below meth c 0 0 g 6 (MQ below (QL g s.heap.size res σ) args s 0 0 (AA g s.heap.size)) 59 [(0, vr g v0), (1, vl v1), (3, vi v3)] [] σ := by
          intro v1 v3 h1 h3 hF
          unfold F_X1_totalPrice_J59 at hF
          refine at_iinc (pc := 59) (lv' := [(3, vi (ja v3 1)), (0, vr g v0), (1, vl v1)]) C 2 dX1_totalPrice_59 rfl (Nat.le_of_ble_eq_true rfl) rfl ?_
          refine at_goto (pc := 62) (tgt := 4) C dX1_totalPrice_62 rfl ?_
          refine at_sub (lv' := [(0, vr g v0), (1, vl v1), (3, vi (ja v3 1))]) [1, 2, 0] rfl ?_
          exact ih4 _ hF h1 (ja_R v3 1)
        refine at_iload (pc := 15) C 3 dX1_totalPrice_15 rfl ?_
        refine at_aload_n (pc := 17) C 0 dX1_totalPrice_17 rfl rfl ?_
        refine at_geti (pc := 18) (jz := 11) C fw_1_46 hk0 rfl (Nat.le_of_ble_eq_true rfl) rfl rfl dX1_totalPrice_18 ?_
        refine at_icmp_ge (pc := 21) (tgt := 59) C h4 (ok v0 11) dX1_totalPrice_21 rfl (fun c2 => ?_) (fun c2 => ?_)
        · have hF := (if_pos c2).symm.trans hF
          refine at_sub (lv' := [(0, vr g v0), (1, vl v1), (3, vi v3)]) [0, 1, 2] rfl ?_
          exact J59 v1 v3 h1 h3 hF
        · have hF := (if_neg c2).symm.trans hF
          refine at_iload_n (pc := 24) C 2 dX1_totalPrice_24 rfl rfl ?_
          refine at_bipush (pc := 25) C dX1_totalPrice_25 (by decide) ?_
          refine at_imul (pc := 27) C dX1_totalPrice_27 ?_
          refine at_iload (pc := 28) C 3 dX1_totalPrice_28 rfl ?_
          refine at_iadd (pc := 30) C dX1_totalPrice_30 ?_
          refine at_istore (pc := 31) (lv' := [(5, vi (ja (jm v3 12) v4)), (0, vr g v0), (1, vl v1), (3, vi v3), (4, vi v4)]) C dX1_totalPrice_31 (Nat.le_of_ble_eq_true rfl) rfl ?_
          refine at_lload_n (pc := 33) C 2 dX1_totalPrice_33 rfl rfl ?_
          refine at_aload_n (pc := 34) C 1 dX1_totalPrice_34 rfl rfl ?_
          refine at_getr (pc := 35) C 4 fw_1_21 hk0 rfl (Nat.le_of_ble_eq_true rfl) rfl rfl dX1_totalPrice_35 ?_
          refine at_iload (pc := 38) C 0 dX1_totalPrice_38 rfl ?_
          obtain ⟨b3, hF⟩ := inb_some hF
          refine at_iaload (pc := 40) C (kf1_3 hk0) b3 dX1_totalPrice_40 ?_
          refine at_i2l (pc := 41) C (ok (v0 + 4) (ja (jm v3 12) v4)) dX1_totalPrice_41 ?_
          refine at_aload_n (pc := 42) C 1 dX1_totalPrice_42 rfl rfl ?_
          refine at_getr (pc := 43) C 5 fw_1_24 hk0 rfl (Nat.le_of_ble_eq_true rfl) rfl rfl dX1_totalPrice_43 ?_
          refine at_iload (pc := 46) C 0 dX1_totalPrice_46 rfl ?_
          refine at_iaload (pc := 48) C (kf1_4 hk0) b3 dX1_totalPrice_48 ?_
          refine at_i2l (pc := 49) C (ok (v0 + 5) (ja (jm v3 12) v4)) dX1_totalPrice_49 ?_
          refine at_lmul (pc := 50) C dX1_totalPrice_50 ?_
          refine at_ladd (pc := 51) C dX1_totalPrice_51 ?_
          refine at_lstore_n (pc := 52) (lv' := [(1, vl (jla v1 (jlm (σ.1 (v0 + 4) (ja (jm v3 12) v4)) (σ.1 (v0 + 5) (ja (jm v3 12) v4))))), (5, vi (ja (jm v3 12) v4)), (0, vr g v0), (3, vi v3), (4, vi v4)]) C dX1_totalPrice_52 rfl (Nat.le_of_ble_eq_true rfl) rfl ?_
          refine at_iinc (pc := 53) (lv' := [(4, vi (ja v4 1)), (1, vl (jla v1 (jlm (σ.1 (v0 + 4) (ja (jm v3 12) v4)) (σ.1 (v0 + 5) (ja (jm v3 12) v4))))), (5, vi (ja (jm v3 12) v4)), (0, vr g v0), (3, vi v3)]) C 4 dX1_totalPrice_53 rfl (Nat.le_of_ble_eq_true rfl) rfl ?_
          refine at_goto (pc := 56) (tgt := 15) C dX1_totalPrice_56 rfl ?_
          refine at_sub (lv' := [(0, vr g v0), (1, vl (jla v1 (jlm (σ.1 (v0 + 4) (ja (jm v3 12) v4)) (σ.1 (v0 + 5) (ja (jm v3 12) v4))))), (3, vi v3), (4, vi (ja v4 1))]) [3, 1, 4, 0] rfl ?_
          exact ih15 _ hF (jla_L v1 (jlm (σ.1 (v0 + 4) (ja (jm v3 12) v4)) (σ.1 (v0 + 5) (ja (jm v3 12) v4)))) (ja_R v4 1)
      refine at_sub (lv' := [(0, vr g v0), (1, vl v1), (3, vi v3), (4, vi 0)]) [1, 2, 3, 0] rfl ?_
      exact L15 v1 v3 0 h1 h3 (isB.r (Or.inl rfl)) hF
  refine at_sub (lv' := [(0, vr g v0), (1, vl 0), (3, vi 0)]) [2, 1, 0] rfl ?_
  exact L4 v0 0 0 hk0 (show inL 0 from ⟨by decide, by decide⟩) (isB.r (Or.inl rfl)) hF
abbrev rm_X1_usedLinks : Room := { frames := 0, cells := 0, slots := 0, locals := 0 }
def F_X1_usedLinks_J25 (N : Nat) (nx4 : (Int × Int) → Option (Int)) (v0 : Nat) (v1 : Int) (v2 : Int) (σ : Sto) : Option (Int) :=
  nx4 (v1, (ja v2 1))
def F_X1_usedLinks_B4 (N : Nat) (nx4 : (Int × Int) → Option (Int)) (v0 : Nat) (v1 : Int) (v2 : Int) (σ : Sto) : Option (Int) :=
  if 144 ≤ v2 then (some v1) else (inb v2 144 (if (σ.1 (v0 + 5) v2) ≤ 0 then (F_X1_usedLinks_J25 N nx4 v0 v1 v2 σ) else (F_X1_usedLinks_J25 N nx4 v0 (ja v1 1) v2 σ)))
def F_X1_usedLinks (N : Nat) (v0 : Nat) (σ : Sto) : Option (Int) :=
  loopK (fun q nx4 => F_X1_usedLinks_B4 N  nx4 v0 q.1 q.2 σ) N (0, 0)
set_option maxHeartbeats 4000000 in
set_option maxRecDepth 100000 in
theorem c_X1_usedLinks (l : Launch) (g : Geo) (N : Nat) (v0 : Nat) (σ : Sto) (res : Int) (hk0 : knd v0 = (11, 14)) (ok : OK σ) (hF : F_X1_usedLinks N v0 σ = some res) : MtI l g yX1_usedLinks cX1_usedLinks 3 (some .int) rm_X1_usedLinks [vr g v0] σ res σ inR := by
  intro sz
  refine Met.ofAt (own := RX1) (QQ := fun z => QI g z res σ inR) (by decide +kernel) (Nat.le_of_ble_eq_true rfl) rfl ?_
  intro p e s m args below meth c C hr hlk
  show At p l e rm_X1_usedLinks s m args below meth c 0 0 g 3 (MQ below (QI g s.heap.size res σ inR) args s 0 0 (AA g s.heap.size)) 0 [(0, vr g v0)] [] σ
  unfold F_X1_usedLinks at hF
  refine at_iconst (pc := 0) C dX1_usedLinks_0 ?_
  refine at_istore_n (pc := 1) (lv' := [(1, vi 0), (0, vr g v0)]) C dX1_usedLinks_1 rfl (Nat.le_of_ble_eq_true rfl) rfl ?_
  refine at_iconst (pc := 2) C dX1_usedLinks_2 ?_
  refine at_istore_n (pc := 3) (lv' := [(2, vi 0), (1, vi 0), (0, vr g v0)]) C dX1_usedLinks_3 rfl (Nat.le_of_ble_eq_true rfl) rfl ?_
  have L4 : ∀ (v0 : Nat) (v1 : Int) (v2 : Int), knd v0 = (11, 14) → inR v1 → inR v2 → loopK (fun q nx4 => F_X1_usedLinks_B4 N  nx4 v0 q.1 q.2 σ) N (v1, v2) = some res → At p l e rm_X1_usedLinks s m args below meth c 0 0 g 3 (MQ below (QI g s.heap.size res σ inR) args s 0 0 (AA g s.heap.size)) 4 [(0, vr g v0), (1, vi v1), (2, vi v2)] [] σ := by
    intro v0 v1 v2 hk0 h1 h2 hF
    refine loopK_ind (res := res) (P := fun (q : Int × Int) => inR q.1 → inR q.2 → At p l e rm_X1_usedLinks s m args below meth c 0 0 g 3 (MQ below (QI g s.heap.size res σ inR) args s 0 0 (AA g s.heap.size)) 4 [(0, vr g v0), (1, vi q.1), (2, vi q.2)] [] σ) ?_ N _ hF h1 h2
    intro nx4 q ih4 hF
    obtain ⟨v1, v2⟩ := q
    intro h1 h2
    have hF : F_X1_usedLinks_B4 N  nx4 v0 v1 v2 σ = some res := hF
    unfold F_X1_usedLinks_B4 at hF
    refine at_iload_n (pc := 4) C 2 dX1_usedLinks_4 rfl rfl ?_
    refine at_aload_n (pc := 5) C 0 dX1_usedLinks_5 rfl rfl ?_
    refine at_getr (pc := 6) C 5 fw_1_24 hk0 rfl (Nat.le_of_ble_eq_true rfl) rfl rfl dX1_usedLinks_6 ?_
    refine at_alen (pc := 9) (nz := 144) C (kf1_4 hk0) rfl dX1_usedLinks_9 ?_
    refine at_icmp_ge (pc := 10) (tgt := 31) C h2 (show inR 144 from ⟨by decide, by decide⟩) dX1_usedLinks_10 rfl (fun c1 => ?_) (fun c1 => ?_)
    · have hF := (if_pos c1).symm.trans hF
      refine at_iload_n (pc := 31) C 1 dX1_usedLinks_31 rfl rfl ?_
      obtain rfl := Option.some.inj hF
      exact at_iret (pc := 32) C hr hlk h1 ok dX1_usedLinks_32
    · have hF := (if_neg c1).symm.trans hF
      have J25 : ∀ (v1 : Int) (v2 : Int), inR v1 → inR v2 → F_X1_usedLinks_J25 N nx4 v0 v1 v2 σ = some res → At p l e rm_X1_usedLinks s m args below meth c 0 0 g 3 (MQ below (QI g s.heap.size res σ inR) args s 0 0 (AA g s.heap.size)) 25 [(0, vr g v0), (1, vi v1), (2, vi v2)] [] σ := by
        intro v1 v2 h1 h2 hF
        unfold F_X1_usedLinks_J25 at hF
        refine at_iinc (pc := 25) (lv' := [(2, vi (ja v2 1)), (0, vr g v0), (1, vi v1)]) C 2 dX1_usedLinks_25 rfl (Nat.le_of_ble_eq_true rfl) rfl ?_
        refine at_goto (pc := 28) (tgt := 4) C dX1_usedLinks_28 rfl ?_
        refine at_sub (lv' := [(0, vr g v0), (1, vi v1), (2, vi (ja v2 1))]) [1, 2, 0] rfl ?_
        exact ih4 _ hF h1 (ja_R v2 1)
      refine at_aload_n (pc := 13) C 0 dX1_usedLinks_13 rfl rfl ?_
      refine at_getr (pc := 14) C 5 fw_1_24 hk0 rfl (Nat.le_of_ble_eq_true rfl) rfl rfl dX1_usedLinks_14 ?_
      refine at_iload_n (pc := 17) C 2 dX1_usedLinks_17 rfl rfl ?_
      obtain ⟨b2, hF⟩ := inb_some hF
      refine at_iaload (pc := 18) C (kf1_4 hk0) b2 dX1_usedLinks_18 ?_
      refine at_if_le (pc := 19) (tgt := 25) C (ok (v0 + 5) v2) dX1_usedLinks_19 rfl (fun c3 => ?_) (fun c3 => ?_)
      · have hF := (if_pos c3).symm.trans hF
        exact J25 v1 v2 h1 h2 hF
      · have hF := (if_neg c3).symm.trans hF
        refine at_iinc (pc := 22) (lv' := [(1, vi (ja v1 1)), (0, vr g v0), (2, vi v2)]) C 1 dX1_usedLinks_22 rfl (Nat.le_of_ble_eq_true rfl) rfl ?_
        refine at_sub (lv' := [(0, vr g v0), (1, vi (ja v1 1)), (2, vi v2)]) [1, 0, 2] rfl ?_
        exact J25 (ja v1 1) v2 (ja_R v1 1) h2 hF
  refine at_sub (lv' := [(0, vr g v0), (1, vi 0), (2, vi 0)]) [2, 1, 0] rfl ?_
  exact L4 v0 0 0 hk0 (isB.r (Or.inl rfl)) (isB.r (Or.inl rfl)) hF
abbrev rm_X1_neighboursOf : Room := { frames := 1, cells := 0, slots := 0, locals := 23 }
def F_X1_neighboursOf_J27 (N : Nat) (nx4 : (Int × Int) → Option (Int)) (v0 : Nat) (v1 : Int) (v2 : Int) (v3 : Int) (σ : Sto) : Option (Int) :=
  nx4 (v2, (ja v3 1))
def F_X1_neighboursOf_B4 (N : Nat) (nx4 : (Int × Int) → Option (Int)) (v0 : Nat) (v1 : Int) (v2 : Int) (v3 : Int) (σ : Sto) : Option (Int) :=
  if (σ.1 v0 11) ≤ v3 then (some v2) else ((F_X1_passable N v0 v1 v3 σ).bind (fun q2 => if q2 ≤ 0 then (F_X1_neighboursOf_J27 N nx4 v0 v1 v2 v3 σ) else (F_X1_neighboursOf_J27 N nx4 v0 v1 (jor v2 (jshl 1 v3)) v3 σ)))
def F_X1_neighboursOf (N : Nat) (v0 : Nat) (v1 : Int) (σ : Sto) : Option (Int) :=
  loopK (fun q nx4 => F_X1_neighboursOf_B4 N  nx4 v0 v1 q.1 q.2 σ) N (0, 0)
set_option maxHeartbeats 4000000 in
set_option maxRecDepth 100000 in
theorem c_X1_neighboursOf (l : Launch) (g : Geo) (N : Nat) (v0 : Nat) (v1 : Int) (σ : Sto) (res : Int) (hk0 : knd v0 = (11, 14)) (h1 : inR v1) (ok : OK σ) (hF : F_X1_neighboursOf N v0 v1 σ = some res) : MtI l g yX1_neighboursOf cX1_neighboursOf 4 (some .int) rm_X1_neighboursOf [vr g v0, vi v1] σ res σ inR := by
  intro sz
  refine Met.ofAt (own := RX1) (QQ := fun z => QI g z res σ inR) (by decide +kernel) (Nat.le_of_ble_eq_true rfl) rfl ?_
  intro p e s m args below meth c C hr hlk
  show At p l e rm_X1_neighboursOf s m args below meth c 0 0 g 4 (MQ below (QI g s.heap.size res σ inR) args s 0 0 (AA g s.heap.size)) 0 [(0, vr g v0), (1, vi v1)] [] σ
  unfold F_X1_neighboursOf at hF
  refine at_iconst (pc := 0) C dX1_neighboursOf_0 ?_
  refine at_istore_n (pc := 1) (lv' := [(2, vi 0), (0, vr g v0), (1, vi v1)]) C dX1_neighboursOf_1 rfl (Nat.le_of_ble_eq_true rfl) rfl ?_
  refine at_iconst (pc := 2) C dX1_neighboursOf_2 ?_
  refine at_istore_n (pc := 3) (lv' := [(3, vi 0), (2, vi 0), (0, vr g v0), (1, vi v1)]) C dX1_neighboursOf_3 rfl (Nat.le_of_ble_eq_true rfl) rfl ?_
  have L4 : ∀ (v0 : Nat) (v1 : Int) (v2 : Int) (v3 : Int), knd v0 = (11, 14) → inR v1 → inR v2 → inR v3 → loopK (fun q nx4 => F_X1_neighboursOf_B4 N  nx4 v0 v1 q.1 q.2 σ) N (v2, v3) = some res → At p l e rm_X1_neighboursOf s m args below meth c 0 0 g 4 (MQ below (QI g s.heap.size res σ inR) args s 0 0 (AA g s.heap.size)) 4 [(0, vr g v0), (1, vi v1), (2, vi v2), (3, vi v3)] [] σ := by
    intro v0 v1 v2 v3 hk0 h1 h2 h3 hF
    refine loopK_ind (res := res) (P := fun (q : Int × Int) => inR q.1 → inR q.2 → At p l e rm_X1_neighboursOf s m args below meth c 0 0 g 4 (MQ below (QI g s.heap.size res σ inR) args s 0 0 (AA g s.heap.size)) 4 [(0, vr g v0), (1, vi v1), (2, vi q.1), (3, vi q.2)] [] σ) ?_ N _ hF h2 h3
    intro nx4 q ih4 hF
    obtain ⟨v2, v3⟩ := q
    intro h2 h3
    have hF : F_X1_neighboursOf_B4 N  nx4 v0 v1 v2 v3 σ = some res := hF
    unfold F_X1_neighboursOf_B4 at hF
    refine at_iload_n (pc := 4) C 3 dX1_neighboursOf_4 rfl rfl ?_
    refine at_aload_n (pc := 5) C 0 dX1_neighboursOf_5 rfl rfl ?_
    refine at_geti (pc := 6) (jz := 11) C fw_1_46 hk0 rfl (Nat.le_of_ble_eq_true rfl) rfl rfl dX1_neighboursOf_6 ?_
    refine at_icmp_ge (pc := 9) (tgt := 33) C h3 (ok v0 11) dX1_neighboursOf_9 rfl (fun c1 => ?_) (fun c1 => ?_)
    · have hF := (if_pos c1).symm.trans hF
      refine at_iload_n (pc := 33) C 2 dX1_neighboursOf_33 rfl rfl ?_
      obtain rfl := Option.some.inj hF
      exact at_iret (pc := 34) C hr hlk h2 ok dX1_neighboursOf_34
    · have hF := (if_neg c1).symm.trans hF
      have J27 : ∀ (v2 : Int) (v3 : Int), inR v2 → inR v3 → F_X1_neighboursOf_J27 N nx4 v0 v1 v2 v3 σ = some res → At p l e rm_X1_neighboursOf s m args below meth c 0 0 g 4 (MQ below (QI g s.heap.size res σ inR) args s 0 0 (AA g s.heap.size)) 27 [(0, vr g v0), (1, vi v1), (2, vi v2), (3, vi v3)] [] σ := by
        intro v2 v3 h2 h3 hF
        unfold F_X1_neighboursOf_J27 at hF
        refine at_iinc (pc := 27) (lv' := [(3, vi (ja v3 1)), (0, vr g v0), (1, vi v1), (2, vi v2)]) C 3 dX1_neighboursOf_27 rfl (Nat.le_of_ble_eq_true rfl) rfl ?_
        refine at_goto (pc := 30) (tgt := 4) C dX1_neighboursOf_30 rfl ?_
        refine at_sub (lv' := [(0, vr g v0), (1, vi v1), (2, vi v2), (3, vi (ja v3 1))]) [1, 2, 3, 0] rfl ?_
        exact ih4 _ hF h2 (ja_R v3 1)
      refine at_aload_n (pc := 12) C 0 dX1_neighboursOf_12 rfl rfl ?_
      refine at_iload_n (pc := 13) C 1 dX1_neighboursOf_13 rfl rfl ?_
      refine at_iload_n (pc := 14) C 3 dX1_neighboursOf_14 rfl rfl ?_
      obtain ⟨q2, eq2, hF⟩ := bind_some' hF
      refine at_callV (pc := 15) (ci := 1) C (c_X1_passable l g N v0 v1 v3 σ q2 hk0 h1 h3 ok eq2) kv_X1_passable w988 hk0 rfl rfl rfl rfl (Nat.le_of_ble_eq_true rfl) ⟨rfl, rfl, (Nat.le_of_ble_eq_true rfl), (Nat.le_of_ble_eq_true rfl)⟩ dX1_neighboursOf_15 (fun tq2 okq2 => ?_)
      refine at_if_le (pc := 18) (tgt := 27) C tq2 dX1_neighboursOf_18 rfl (fun c3 => ?_) (fun c3 => ?_)
      · have hF := (if_pos c3).symm.trans hF
        exact J27 v2 v3 h2 h3 hF
      · have hF := (if_neg c3).symm.trans hF
        refine at_iload_n (pc := 21) C 2 dX1_neighboursOf_21 rfl rfl ?_
        refine at_iconst (pc := 22) C dX1_neighboursOf_22 ?_
        refine at_iload_n (pc := 23) C 3 dX1_neighboursOf_23 rfl rfl ?_
        refine at_ishl (pc := 24) C dX1_neighboursOf_24 ?_
        refine at_ior (pc := 25) C dX1_neighboursOf_25 ?_
        refine at_istore_n (pc := 26) (lv' := [(2, vi (jor v2 (jshl 1 v3))), (0, vr g v0), (1, vi v1), (3, vi v3)]) C dX1_neighboursOf_26 rfl (Nat.le_of_ble_eq_true rfl) rfl ?_
        refine at_sub (lv' := [(0, vr g v0), (1, vi v1), (2, vi (jor v2 (jshl 1 v3))), (3, vi v3)]) [1, 2, 0, 3] rfl ?_
        exact J27 (jor v2 (jshl 1 v3)) v3 (jor_R v2 (jshl 1 v3)) h3 hF
  refine at_sub (lv' := [(0, vr g v0), (1, vi v1), (2, vi 0), (3, vi 0)]) [2, 3, 1, 0] rfl ?_
  exact L4 v0 v1 0 0 hk0 h1 (isB.r (Or.inl rfl)) (isB.r (Or.inl rfl)) hF
abbrev rm_X1_reachedBits : Room := { frames := 2, cells := 0, slots := 0, locals := 46 }
def F_X1_reachedBits_J85 (N : Nat) (nx44 : (Int × Int) → Option (Int)) (v0 : Nat) (v1 : Int) (v2 : Int) (σ : Sto) : Option (Int) :=
  nx44 (v1, (ja v2 1))
def F_X1_reachedBits_J79 (N : Nat) (nx44 : (Int × Int) → Option (Int)) (nx54 : (Int × Int) → Option (Int)) (v0 : Nat) (v1 : Int) (v2 : Int) (v3 : Int) (σ : Sto) : Option (Int) :=
  nx54 (v1, (ja v3 1))
def F_X1_reachedBits_B54 (N : Nat) (nx44 : (Int × Int) → Option (Int)) (nx54 : (Int × Int) → Option (Int)) (v0 : Nat) (v2 : Int) (v1 : Int) (v3 : Int) (σ : Sto) : Option (Int) :=
  if (σ.1 v0 11) ≤ v3 then (F_X1_reachedBits_J85 N nx44 v0 v1 v2 σ) else (if (jand (jshr v1 v3) 1) = 1 then ((F_X1_neighboursOf N v0 v3 σ).bind (fun q4 => F_X1_reachedBits_J79 N nx44 nx54 v0 (jor v1 q4) v2 v3 σ)) else (F_X1_reachedBits_J79 N nx44 nx54 v0 v1 v2 v3 σ))
def F_X1_reachedBits_B44 (N : Nat) (nx44 : (Int × Int) → Option (Int)) (v0 : Nat) (v1 : Int) (v2 : Int) (σ : Sto) : Option (Int) :=
  if (σ.1 v0 11) ≤ v2 then (some v1) else (loopK (fun q nx54 => F_X1_reachedBits_B54 N nx44 nx54 v0 v2 q.1 q.2 σ) N (v1, 0))
def F_X1_reachedBits_J42 (N : Nat)  (v0 : Nat) (v1 : Int) (σ : Sto) : Option (Int) :=
  loopK (fun q nx44 => F_X1_reachedBits_B44 N  nx44 v0 q.1 q.2 σ) N (v1, 0)
def F_X1_reachedBits_J36 (N : Nat) (nx4 : (Int × Int) → Option (Int)) (v0 : Nat) (v1 : Int) (v2 : Int) (σ : Sto) : Option (Int) :=
  nx4 (v1, (ja v2 1))
def F_X1_reachedBits_B4 (N : Nat) (nx4 : (Int × Int) → Option (Int)) (v0 : Nat) (v1 : Int) (v2 : Int) (σ : Sto) : Option (Int) :=
  if (σ.1 v0 11) ≤ v2 then (F_X1_reachedBits_J42 N  v0 v1 σ) else (inb v2 12 (if 0 ≤ (σ.1 (v0 + 1) v2) then (F_X1_reachedBits_J36 N nx4 v0 v1 v2 σ) else (if (σ.1 (v0 + 2) v2) ≤ 0 then (F_X1_reachedBits_J36 N nx4 v0 v1 v2 σ) else (F_X1_reachedBits_J36 N nx4 v0 (jor v1 (jshl 1 v2)) v2 σ))))
def F_X1_reachedBits (N : Nat) (v0 : Nat) (σ : Sto) : Option (Int) :=
  loopK (fun q nx4 => F_X1_reachedBits_B4 N  nx4 v0 q.1 q.2 σ) N (0, 0)
set_option maxHeartbeats 4000000 in
set_option maxRecDepth 100000 in
theorem c_X1_reachedBits (l : Launch) (g : Geo) (N : Nat) (v0 : Nat) (σ : Sto) (res : Int) (hk0 : knd v0 = (11, 14)) (ok : OK σ) (hF : F_X1_reachedBits N v0 σ = some res) : MtI l g yX1_reachedBits cX1_reachedBits 4 (some .int) rm_X1_reachedBits [vr g v0] σ res σ inR := by
  intro sz
  refine Met.ofAt (own := RX1) (QQ := fun z => QI g z res σ inR) (by decide +kernel) (Nat.le_of_ble_eq_true rfl) rfl ?_
  intro p e s m args below meth c C hr hlk
  show At p l e rm_X1_reachedBits s m args below meth c 0 0 g 4 (MQ below (QI g s.heap.size res σ inR) args s 0 0 (AA g s.heap.size)) 0 [(0, vr g v0)] [] σ
  unfold F_X1_reachedBits at hF
  refine at_iconst (pc := 0) C dX1_reachedBits_0 ?_
  refine at_istore_n (pc := 1) (lv' := [(1, vi 0), (0, vr g v0)]) C dX1_reachedBits_1 rfl (Nat.le_of_ble_eq_true rfl) rfl ?_
  refine at_iconst (pc := 2) C dX1_reachedBits_2 ?_
  refine at_istore_n (pc := 3) (lv' := [(2, vi 0), (1, vi 0), (0, vr g v0)]) C dX1_reachedBits_3 rfl (Nat.le_of_ble_eq_true rfl) rfl ?_
  have L4 : ∀ (v0 : Nat) (v1 : Int) (v2 : Int), knd v0 = (11, 14) → inR v1 → inR v2 → loopK (fun q nx4 => F_X1_reachedBits_B4 N  nx4 v0 q.1 q.2 σ) N (v1, v2) = some res → At p l e rm_X1_reachedBits s m args below meth c 0 0 g 4 (MQ below (QI g s.heap.size res σ inR) args s 0 0 (AA g s.heap.size)) 4 [(0, vr g v0), (1, vi v1), (2, vi v2)] [] σ := by
    intro v0 v1 v2 hk0 h1 h2 hF
    refine loopK_ind (res := res) (P := fun (q : Int × Int) => inR q.1 → inR q.2 → At p l e rm_X1_reachedBits s m args below meth c 0 0 g 4 (MQ below (QI g s.heap.size res σ inR) args s 0 0 (AA g s.heap.size)) 4 [(0, vr g v0), (1, vi q.1), (2, vi q.2)] [] σ) ?_ N _ hF h1 h2
    intro nx4 q ih4 hF
    obtain ⟨v1, v2⟩ := q
    intro h1 h2
    have hF : F_X1_reachedBits_B4 N  nx4 v0 v1 v2 σ = some res := hF
    unfold F_X1_reachedBits_B4 at hF
    have J42 : ∀ (v0 : Nat) (v1 : Int), knd v0 = (11, 14) → inR v1 → F_X1_reachedBits_J42 N  v0 v1 σ = some res → At p l e rm_X1_reachedBits s m args below meth c 0 0 g 4 (MQ below (QI g s.heap.size res σ inR) args s 0 0 (AA g s.heap.size)) 42 [(0, vr g v0), (1, vi v1)] [] σ := by
      intro v0 v1 hk0 h1 hF
      unfold F_X1_reachedBits_J42 at hF
      refine at_iconst (pc := 42) C dX1_reachedBits_42 ?_
      refine at_istore_n (pc := 43) (lv' := [(2, vi 0), (0, vr g v0), (1, vi v1)]) C dX1_reachedBits_43 rfl (Nat.le_of_ble_eq_true rfl) rfl ?_
      have L44 : ∀ (v0 : Nat) (v1 : Int) (v2 : Int), knd v0 = (11, 14) → inR v1 → inR v2 → loopK (fun q nx44 => F_X1_reachedBits_B44 N  nx44 v0 q.1 q.2 σ) N (v1, v2) = some res → At p l e rm_X1_reachedBits s m args below meth c 0 0 g 4 (MQ below (QI g s.heap.size res σ inR) args s 0 0 (AA g s.heap.size)) 44 [(0, vr g v0), (1, vi v1), (2, vi v2)] [] σ := by
        intro v0 v1 v2 hk0 h1 h2 hF
        refine loopK_ind (res := res) (P := fun (q : Int × Int) => inR q.1 → inR q.2 → At p l e rm_X1_reachedBits s m args below meth c 0 0 g 4 (MQ below (QI g s.heap.size res σ inR) args s 0 0 (AA g s.heap.size)) 44 [(0, vr g v0), (1, vi q.1), (2, vi q.2)] [] σ) ?_ N _ hF h1 h2
        intro nx44 q ih44 hF
        obtain ⟨v1, v2⟩ := q
        intro h1 h2
        have hF : F_X1_reachedBits_B44 N  nx44 v0 v1 v2 σ = some res := hF
        unfold F_X1_reachedBits_B44 at hF
        refine at_iload_n (pc := 44) C 2 dX1_reachedBits_44 rfl rfl ?_
        refine at_aload_n (pc := 45) C 0 dX1_reachedBits_45 rfl rfl ?_
        refine at_geti (pc := 46) (jz := 11) C fw_1_46 hk0 rfl (Nat.le_of_ble_eq_true rfl) rfl rfl dX1_reachedBits_46 ?_
        refine at_icmp_ge (pc := 49) (tgt := 91) C h2 (ok v0 11) dX1_reachedBits_49 rfl (fun c1 => ?_) (fun c1 => ?_)
        · have hF := (if_pos c1).symm.trans hF
          refine at_iload_n (pc := 91) C 1 dX1_reachedBits_91 rfl rfl ?_
          obtain rfl := Option.some.inj hF
          exact at_iret (pc := 92) C hr hlk h1 ok dX1_reachedBits_92
        · have hF := (if_neg c1).symm.trans hF
          refine at_iconst (pc := 52) C dX1_reachedBits_52 ?_
          refine at_istore_n (pc := 53) (lv' := [(3, vi 0), (0, vr g v0), (1, vi v1), (2, vi v2)]) C dX1_reachedBits_53 rfl (Nat.le_of_ble_eq_true rfl) rfl ?_
          have L54 : ∀ (v1 : Int) (v2 : Int) (v3 : Int), inR v1 → inR v2 → inR v3 → loopK (fun q nx54 => F_X1_reachedBits_B54 N nx44 nx54 v0 v2 q.1 q.2 σ) N (v1, v3) = some res → At p l e rm_X1_reachedBits s m args below meth c 0 0 g 4 (MQ below (QI g s.heap.size res σ inR) args s 0 0 (AA g s.heap.size)) 54 [(0, vr g v0), (1, vi v1), (2, vi v2), (3, vi v3)] [] σ := by
            intro v1 v2 v3 h1 h2 h3 hF
            refine loopK_ind (res := res) (P := fun (q : Int × Int) => inR q.1 → inR q.2 → At p l e rm_X1_reachedBits s m args below meth c 0 0 g 4 (MQ below (QI g s.heap.size res σ inR) args s 0 0 (AA g s.heap.size)) 54 [(0, vr g v0), (1, vi q.1), (2, vi v2), (3, vi q.2)] [] σ) ?_ N _ hF h1 h3
            intro nx54 q ih54 hF
            obtain ⟨v1, v3⟩ := q
            intro h1 h3
            have hF : F_X1_reachedBits_B54 N nx44 nx54 v0 v2 v1 v3 σ = some res := hF
            unfold F_X1_reachedBits_B54 at hF
            have J85 : ∀ (v1 : Int) (v2 : Int), inR v1 → inR v2 → F_X1_reachedBits_J85 N nx44 v0 v1 v2 σ = some res → At p l e rm_X1_reachedBits s m args below meth c 0 0 g 4 (MQ below (QI g s.heap.size res σ inR) args s 0 0 (AA g s.heap.size)) 85 [(0, vr g v0), (1, vi v1), (2, vi v2)] [] σ := by
              intro v1 v2 h1 h2 hF
              unfold F_X1_reachedBits_J85 at hF
              refine at_iinc (pc := 85) (lv' := [(2, vi (ja v2 1)), (0, vr g v0), (1, vi v1)]) C 2 dX1_reachedBits_85 rfl (Nat.le_of_ble_eq_true rfl) rfl ?_
              refine at_goto (pc := 88) (tgt := 44) C dX1_reachedBits_88 rfl ?_
              refine at_sub (lv' := [(0, vr g v0), (1, vi v1), (2, vi (ja v2 1))]) [1, 2, 0] rfl ?_
              exact ih44 _ hF h1 (ja_R v2 1)
            refine at_iload_n (pc := 54) C 3 dX1_reachedBits_54 rfl rfl ?_
            refine at_aload_n (pc := 55) C 0 dX1_reachedBits_55 rfl rfl ?_
            refine at_geti (pc := 56) (jz := 11) C fw_1_46 hk0 rfl (Nat.le_of_ble_eq_true rfl) rfl rfl dX1_reachedBits_56 ?_
            refine at_icmp_ge (pc := 59) (tgt := 85) C h3 (ok v0 11) dX1_reachedBits_59 rfl (fun c2 => ?_) (fun c2 => ?_)
            · have hF := (if_pos c2).symm.trans hF
              refine at_sub (lv' := [(0, vr g v0), (1, vi v1), (2, vi v2)]) [0, 1, 2] rfl ?_
              exact J85 v1 v2 h1 h2 hF
            · have hF := (if_neg c2).symm.trans hF
              have J79 : ∀ (v1 : Int) (v3 : Int), inR v1 → inR v3 → F_X1_reachedBits_J79 N nx44 nx54 v0 v1 v2 v3 σ = some res → At p l e rm_X1_reachedBits s m args below meth c 0 0 g 4 (MQ below (QI g s.heap.size res σ inR) args s 0 0 (AA g s.heap.size)) 79 [(0, vr g v0), (1, vi v1), (2, vi v2), (3, vi v3)] [] σ := by
                intro v1 v3 h1 h3 hF
                unfold F_X1_reachedBits_J79 at hF
                refine at_iinc (pc := 79) (lv' := [(3, vi (ja v3 1)), (0, vr g v0), (1, vi v1), (2, vi v2)]) C 3 dX1_reachedBits_79 rfl (Nat.le_of_ble_eq_true rfl) rfl ?_
                refine at_goto (pc := 82) (tgt := 54) C dX1_reachedBits_82 rfl ?_
                refine at_sub (lv' := [(0, vr g v0), (1, vi v1), (2, vi v2), (3, vi (ja v3 1))]) [1, 2, 3, 0] rfl ?_
                exact ih54 _ hF h1 (ja_R v3 1)
              refine at_iload_n (pc := 62) C 1 dX1_reachedBits_62 rfl rfl ?_
              refine at_iload_n (pc := 63) C 3 dX1_reachedBits_63 rfl rfl ?_
              refine at_ishr (pc := 64) C dX1_reachedBits_64 ?_
              refine at_iconst (pc := 65) C dX1_reachedBits_65 ?_
              refine at_iand (pc := 66) C dX1_reachedBits_66 ?_
              refine at_iconst (pc := 67) C dX1_reachedBits_67 ?_
              refine at_icmp_ne (pc := 68) (tgt := 79) C (jand_R (jshr v1 v3) 1) (isB.r (Or.inr rfl)) dX1_reachedBits_68 rfl (fun c3 => ?_) (fun c3 => ?_)
              · have hF := (if_neg c3).symm.trans hF
                exact J79 v1 v3 h1 h3 hF
              · have hF := (if_pos c3).symm.trans hF
                refine at_iload_n (pc := 71) C 1 dX1_reachedBits_71 rfl rfl ?_
                refine at_aload_n (pc := 72) C 0 dX1_reachedBits_72 rfl rfl ?_
                refine at_iload_n (pc := 73) C 3 dX1_reachedBits_73 rfl rfl ?_
                obtain ⟨q4, eq4, hF⟩ := bind_some' hF
                refine at_callV (pc := 74) (ci := 1) C (c_X1_neighboursOf l g N v0 v3 σ q4 hk0 h3 ok eq4) kv_X1_neighboursOf w1033 hk0 rfl rfl rfl rfl (Nat.le_of_ble_eq_true rfl) ⟨rfl, rfl, (Nat.le_of_ble_eq_true rfl), (Nat.le_of_ble_eq_true rfl)⟩ dX1_reachedBits_74 (fun tq4 okq4 => ?_)
                refine at_ior (pc := 77) C dX1_reachedBits_77 ?_
                refine at_istore_n (pc := 78) (lv' := [(1, vi (jor v1 q4)), (0, vr g v0), (2, vi v2), (3, vi v3)]) C dX1_reachedBits_78 rfl (Nat.le_of_ble_eq_true rfl) rfl ?_
                refine at_sub (lv' := [(0, vr g v0), (1, vi (jor v1 q4)), (2, vi v2), (3, vi v3)]) [1, 0, 2, 3] rfl ?_
                exact J79 (jor v1 q4) v3 (jor_R v1 q4) h3 hF
          refine at_sub (lv' := [(0, vr g v0), (1, vi v1), (2, vi v2), (3, vi 0)]) [1, 2, 3, 0] rfl ?_
          exact L54 v1 v2 0 h1 h2 (isB.r (Or.inl rfl)) hF
      refine at_sub (lv' := [(0, vr g v0), (1, vi v1), (2, vi 0)]) [1, 2, 0] rfl ?_
      exact L44 v0 v1 0 hk0 h1 (isB.r (Or.inl rfl)) hF
    refine at_iload_n (pc := 4) C 2 dX1_reachedBits_4 rfl rfl ?_
    refine at_aload_n (pc := 5) C 0 dX1_reachedBits_5 rfl rfl ?_
    refine at_geti (pc := 6) (jz := 11) C fw_1_46 hk0 rfl (Nat.le_of_ble_eq_true rfl) rfl rfl dX1_reachedBits_6 ?_
    refine at_icmp_ge (pc := 9) (tgt := 42) C h2 (ok v0 11) dX1_reachedBits_9 rfl (fun c5 => ?_) (fun c5 => ?_)
    · have hF := (if_pos c5).symm.trans hF
      refine at_sub (lv' := [(0, vr g v0), (1, vi v1)]) [0, 1] rfl ?_
      exact J42 v0 v1 hk0 h1 hF
    · have hF := (if_neg c5).symm.trans hF
      have J36 : ∀ (v1 : Int) (v2 : Int), inR v1 → inR v2 → F_X1_reachedBits_J36 N nx4 v0 v1 v2 σ = some res → At p l e rm_X1_reachedBits s m args below meth c 0 0 g 4 (MQ below (QI g s.heap.size res σ inR) args s 0 0 (AA g s.heap.size)) 36 [(0, vr g v0), (1, vi v1), (2, vi v2)] [] σ := by
        intro v1 v2 h1 h2 hF
        unfold F_X1_reachedBits_J36 at hF
        refine at_iinc (pc := 36) (lv' := [(2, vi (ja v2 1)), (0, vr g v0), (1, vi v1)]) C 2 dX1_reachedBits_36 rfl (Nat.le_of_ble_eq_true rfl) rfl ?_
        refine at_goto (pc := 39) (tgt := 4) C dX1_reachedBits_39 rfl ?_
        refine at_sub (lv' := [(0, vr g v0), (1, vi v1), (2, vi (ja v2 1))]) [1, 2, 0] rfl ?_
        exact ih4 _ hF h1 (ja_R v2 1)
      refine at_aload_n (pc := 12) C 0 dX1_reachedBits_12 rfl rfl ?_
      refine at_getr (pc := 13) C 1 fw_1_9 hk0 rfl (Nat.le_of_ble_eq_true rfl) rfl rfl dX1_reachedBits_13 ?_
      refine at_iload_n (pc := 16) C 2 dX1_reachedBits_16 rfl rfl ?_
      obtain ⟨b6, hF⟩ := inb_some hF
      refine at_iaload (pc := 17) C (kf1_0 hk0) b6 dX1_reachedBits_17 ?_
      refine at_if_ge (pc := 18) (tgt := 36) C (ok (v0 + 1) v2) dX1_reachedBits_18 rfl (fun c7 => ?_) (fun c7 => ?_)
      · have hF := (if_pos c7).symm.trans hF
        exact J36 v1 v2 h1 h2 hF
      · have hF := (if_neg c7).symm.trans hF
        refine at_aload_n (pc := 21) C 0 dX1_reachedBits_21 rfl rfl ?_
        refine at_getr (pc := 22) C 2 fw_1_15 hk0 rfl (Nat.le_of_ble_eq_true rfl) rfl rfl dX1_reachedBits_22 ?_
        refine at_iload_n (pc := 25) C 2 dX1_reachedBits_25 rfl rfl ?_
        refine at_iaload (pc := 26) C (kf1_1 hk0) b6 dX1_reachedBits_26 ?_
        refine at_if_le (pc := 27) (tgt := 36) C (ok (v0 + 2) v2) dX1_reachedBits_27 rfl (fun c8 => ?_) (fun c8 => ?_)
        · have hF := (if_pos c8).symm.trans hF
          exact J36 v1 v2 h1 h2 hF
        · have hF := (if_neg c8).symm.trans hF
          refine at_iload_n (pc := 30) C 1 dX1_reachedBits_30 rfl rfl ?_
          refine at_iconst (pc := 31) C dX1_reachedBits_31 ?_
          refine at_iload_n (pc := 32) C 2 dX1_reachedBits_32 rfl rfl ?_
          refine at_ishl (pc := 33) C dX1_reachedBits_33 ?_
          refine at_ior (pc := 34) C dX1_reachedBits_34 ?_
          refine at_istore_n (pc := 35) (lv' := [(1, vi (jor v1 (jshl 1 v2))), (0, vr g v0), (2, vi v2)]) C dX1_reachedBits_35 rfl (Nat.le_of_ble_eq_true rfl) rfl ?_
          refine at_sub (lv' := [(0, vr g v0), (1, vi (jor v1 (jshl 1 v2))), (2, vi v2)]) [1, 0, 2] rfl ?_
          exact J36 (jor v1 (jshl 1 v2)) v2 (jor_R v1 (jshl 1 v2)) h2 hF
  refine at_sub (lv' := [(0, vr g v0), (1, vi 0), (2, vi 0)]) [2, 1, 0] rfl ?_
  exact L4 v0 0 0 hk0 (isB.r (Or.inl rfl)) (isB.r (Or.inl rfl)) hF
abbrev rm_X2_clear : Room := { frames := 0, cells := 0, slots := 0, locals := 0 }
def F_X2_clear (N : Nat)  (σ : Sto) : Option (Sto) :=
  some (upI σ 33 1 0)
set_option maxHeartbeats 4000000 in
set_option maxRecDepth 100000 in
theorem c_X2_clear (l : Launch) (g : Geo) (N : Nat)  (σ : Sto) (res : Sto)  (ok : OK σ) (hF : F_X2_clear N  σ = some res) : MtV l g yX2_clear cX2_clear 1 none rm_X2_clear [vr g 33] σ res := by
  intro sz
  refine Met.ofAt (own := RX2) (QQ := fun z => QV g z res) (by decide +kernel) (Nat.le_of_ble_eq_true rfl) rfl ?_
  intro p e s m args below meth c C hr hlk
  show At p l e rm_X2_clear s m args below meth c 0 0 g 1 (MQ below (QV g s.heap.size res) args s 0 0 (AA g s.heap.size)) 0 [(0, vr g 33)] [] σ
  unfold F_X2_clear at hF
  refine at_aload_n (pc := 0) C 0 dX2_clear_0 rfl rfl ?_
  refine at_iconst (pc := 1) C dX2_clear_1 ?_
  refine at_puti (pc := 2) (jz := 1) C fu_2_15 kd33 rfl (Nat.le_of_ble_eq_true rfl) rfl rfl dX2_clear_2 ?_
  obtain rfl := Option.some.inj hF
  exact at_vret (pc := 5) C hr hlk (OK_up (k := 33) (j := 1) ok (isB.r (Or.inl rfl))) dX2_clear_5
abbrev rm_X2_push : Room := { frames := 1, cells := 0, slots := 0, locals := 48 }
def F_X2_push_J30 (N : Nat)  (v1 : Int) (v2 : Int) (v3 : Int) (v4 : Int) (v5 : Int) (σ : Sto) : Option (Sto) :=
  inb (jm (σ.1 33 1) 5) 100 (inb (ja (jm (σ.1 33 1) 5) 1) 100 (inb (ja (jm (σ.1 33 1) 5) 2) 100 (inb (ja (jm (σ.1 33 1) 5) 3) 100 (inb (ja (jm (σ.1 33 1) 5) 4) 100 (some (upI (upI (upI (upI (upI (upI σ 34 (jm (σ.1 33 1) 5) v1) 34 (ja (jm (σ.1 33 1) 5) 1) v2) 34 (ja (jm (σ.1 33 1) 5) 2) v3) 34 (ja (jm (σ.1 33 1) 5) 3) v4) 34 (ja (jm (σ.1 33 1) 5) 4) v5) 33 1 (ja ((upI (upI (upI (upI (upI σ 34 (jm (σ.1 33 1) 5) v1) 34 (ja (jm (σ.1 33 1) 5) 1) v2) 34 (ja (jm (σ.1 33 1) 5) 2) v3) 34 (ja (jm (σ.1 33 1) 5) 3) v4) 34 (ja (jm (σ.1 33 1) 5) 4) v5).1 33 1) 1)))))))
def F_X2_push (N : Nat) (v1 : Int) (v2 : Int) (v3 : Int) (v4 : Int) (v5 : Int) (σ : Sto) : Option (Sto) :=
  if (σ.1 33 1) < 20 then (F_X2_push_J30 N  v1 v2 v3 v4 v5 σ) else (grd ((0 : Int) ≤ 5 ∧ (0 : Int) ≤ 0 ∧ (0 : Int) ≤ 95 ∧ (5 : Int) + 95 ≤ 100 ∧ (0 : Int) + 95 ≤ 100) inferInstance (F_X2_push_J30 N  v1 v2 v3 v4 v5 (upI (cpI σ 34 5 34 0 95) 33 1 19)))
set_option maxHeartbeats 4000000 in
set_option maxRecDepth 100000 in
theorem c_X2_push (l : Launch) (g : Geo) (N : Nat) (v1 : Int) (v2 : Int) (v3 : Int) (v4 : Int) (v5 : Int) (σ : Sto) (res : Sto) (h1 : inR v1) (h2 : inR v2) (h3 : inR v3) (h4 : inR v4) (h5 : inR v5) (ok : OK σ) (hF : F_X2_push N v1 v2 v3 v4 v5 σ = some res) : MtV l g yX2_push cX2_push 7 none rm_X2_push [vr g 33, vi v1, vi v2, vi v3, vi v4, vi v5] σ res := by
  intro sz
  refine Met.ofAt (own := RX2) (QQ := fun z => QV g z res) (by decide +kernel) (Nat.le_of_ble_eq_true rfl) rfl ?_
  intro p e s m args below meth c C hr hlk
  show At p l e rm_X2_push s m args below meth c 0 0 g 7 (MQ below (QV g s.heap.size res) args s 0 0 (AA g s.heap.size)) 0 [(0, vr g 33), (1, vi v1), (2, vi v2), (3, vi v3), (4, vi v4), (5, vi v5)] [] σ
  unfold F_X2_push at hF
  have J30 : ∀ (v1 : Int) (v2 : Int) (v3 : Int) (v4 : Int) (v5 : Int) (σ : Sto), inR v1 → inR v2 → inR v3 → inR v4 → inR v5 → OK σ → F_X2_push_J30 N  v1 v2 v3 v4 v5 σ = some res → At p l e rm_X2_push s m args below meth c 0 0 g 7 (MQ below (QV g s.heap.size res) args s 0 0 (AA g s.heap.size)) 30 [(0, vr g 33), (1, vi v1), (2, vi v2), (3, vi v3), (4, vi v4), (5, vi v5)] [] σ := by
    intro v1 v2 v3 v4 v5 σ h1 h2 h3 h4 h5 ok hF
    unfold F_X2_push_J30 at hF
    refine at_aload_n (pc := 30) C 0 dX2_push_30 rfl rfl ?_
    refine at_geti (pc := 31) (jz := 1) C fw_2_15 kd33 rfl (Nat.le_of_ble_eq_true rfl) rfl rfl dX2_push_31 ?_
    refine at_iconst (pc := 34) C dX2_push_34 ?_
    refine at_imul (pc := 35) C dX2_push_35 ?_
    refine at_istore (pc := 36) (lv' := [(6, vi (jm (σ.1 33 1) 5)), (0, vr g 33), (1, vi v1), (2, vi v2), (3, vi v3), (4, vi v4), (5, vi v5)]) C dX2_push_36 (Nat.le_of_ble_eq_true rfl) rfl ?_
    refine at_aload_n (pc := 38) C 1 dX2_push_38 rfl rfl ?_
    refine at_getr (pc := 39) (k' := 34) C 1 fw_2_11 kd33 rfl (Nat.le_of_ble_eq_true rfl) rfl rfl dX2_push_39 ?_
    refine at_iload (pc := 42) C 0 dX2_push_42 rfl ?_
    refine at_iload_n (pc := 44) C 2 dX2_push_44 rfl rfl ?_
    obtain ⟨b1, hF⟩ := inb_some hF
    refine at_iastore (pc := 45) C kd34 b1 dX2_push_45 ?_
    refine at_aload_n (pc := 46) C 1 dX2_push_46 rfl rfl ?_
    refine at_getr (pc := 47) (k' := 34) C 1 fw_2_11 kd33 rfl (Nat.le_of_ble_eq_true rfl) rfl rfl dX2_push_47 ?_
    refine at_iload (pc := 50) C 0 dX2_push_50 rfl ?_
    refine at_iconst (pc := 52) C dX2_push_52 ?_
    refine at_iadd (pc := 53) C dX2_push_53 ?_
    refine at_iload_n (pc := 54) C 3 dX2_push_54 rfl rfl ?_
    obtain ⟨b2, hF⟩ := inb_some hF
    refine at_iastore (pc := 55) C kd34 b2 dX2_push_55 ?_
    refine at_aload_n (pc := 56) C 1 dX2_push_56 rfl rfl ?_
    refine at_getr (pc := 57) (k' := 34) C 1 fw_2_11 kd33 rfl (Nat.le_of_ble_eq_true rfl) rfl rfl dX2_push_57 ?_
    refine at_iload (pc := 60) C 0 dX2_push_60 rfl ?_
    refine at_iconst (pc := 62) C dX2_push_62 ?_
    refine at_iadd (pc := 63) C dX2_push_63 ?_
    refine at_iload_n (pc := 64) C 4 dX2_push_64 rfl rfl ?_
    obtain ⟨b3, hF⟩ := inb_some hF
    refine at_iastore (pc := 65) C kd34 b3 dX2_push_65 ?_
    refine at_aload_n (pc := 66) C 1 dX2_push_66 rfl rfl ?_
    refine at_getr (pc := 67) (k' := 34) C 1 fw_2_11 kd33 rfl (Nat.le_of_ble_eq_true rfl) rfl rfl dX2_push_67 ?_
    refine at_iload (pc := 70) C 0 dX2_push_70 rfl ?_
    refine at_iconst (pc := 72) C dX2_push_72 ?_
    refine at_iadd (pc := 73) C dX2_push_73 ?_
    refine at_iload (pc := 74) C 5 dX2_push_74 rfl ?_
    obtain ⟨b4, hF⟩ := inb_some hF
    refine at_iastore (pc := 76) C kd34 b4 dX2_push_76 ?_
    refine at_aload_n (pc := 77) C 1 dX2_push_77 rfl rfl ?_
    refine at_getr (pc := 78) (k' := 34) C 1 fw_2_11 kd33 rfl (Nat.le_of_ble_eq_true rfl) rfl rfl dX2_push_78 ?_
    refine at_iload (pc := 81) C 0 dX2_push_81 rfl ?_
    refine at_iconst (pc := 83) C dX2_push_83 ?_
    refine at_iadd (pc := 84) C dX2_push_84 ?_
    refine at_iload (pc := 85) C 6 dX2_push_85 rfl ?_
    obtain ⟨b5, hF⟩ := inb_some hF
    refine at_iastore (pc := 87) C kd34 b5 dX2_push_87 ?_
    refine at_aload_n (pc := 88) C 1 dX2_push_88 rfl rfl ?_
    refine at_dup (pc := 89) C dX2_push_89 rfl ?_
    refine at_geti (pc := 90) (jz := 1) C fw_2_15 kd33 rfl (Nat.le_of_ble_eq_true rfl) rfl rfl dX2_push_90 ?_
    refine at_iconst (pc := 93) C dX2_push_93 ?_
    refine at_iadd (pc := 94) C dX2_push_94 ?_
    refine at_puti (pc := 95) (jz := 1) C fu_2_15 kd33 rfl (Nat.le_of_ble_eq_true rfl) rfl rfl dX2_push_95 ?_
    obtain rfl := Option.some.inj hF
    exact at_vret (pc := 98) C hr hlk (OK_up (k := 33) (j := 1) (OK_up (k := 34) (j := (ja (jm (σ.1 33 1) 5) 4)) (OK_up (k := 34) (j := (ja (jm (σ.1 33 1) 5) 3)) (OK_up (k := 34) (j := (ja (jm (σ.1 33 1) 5) 2)) (OK_up (k := 34) (j := (ja (jm (σ.1 33 1) 5) 1)) (OK_up (k := 34) (j := (jm (σ.1 33 1) 5)) ok h1) h2) h3) h4) h5) (ja_R ((upI (upI (upI (upI (upI σ 34 (jm (σ.1 33 1) 5) v1) 34 (ja (jm (σ.1 33 1) 5) 1) v2) 34 (ja (jm (σ.1 33 1) 5) 2) v3) 34 (ja (jm (σ.1 33 1) 5) 3) v4) 34 (ja (jm (σ.1 33 1) 5) 4) v5).1 33 1) 1)) dX2_push_98
  refine at_aload_n (pc := 0) C 0 dX2_push_0 rfl rfl ?_
  refine at_geti (pc := 1) (jz := 1) C fw_2_15 kd33 rfl (Nat.le_of_ble_eq_true rfl) rfl rfl dX2_push_1 ?_
  refine at_bipush (pc := 4) C dX2_push_4 (by decide) ?_
  refine at_icmp_lt (pc := 6) (tgt := 30) C (ok 33 1) (show inR 20 from ⟨by decide, by decide⟩) dX2_push_6 rfl (fun c6 => ?_) (fun c6 => ?_)
  · have hF := (if_pos c6).symm.trans hF
    exact J30 v1 v2 v3 v4 v5 σ h1 h2 h3 h4 h5 ok hF
  · have hF := (if_neg c6).symm.trans hF
    refine at_aload_n (pc := 9) C 0 dX2_push_9 rfl rfl ?_
    refine at_getr (pc := 10) (k' := 34) C 1 fw_2_11 kd33 rfl (Nat.le_of_ble_eq_true rfl) rfl rfl dX2_push_10 ?_
    refine at_iconst (pc := 13) C dX2_push_13 ?_
    refine at_aload_n (pc := 14) C 0 dX2_push_14 rfl rfl ?_
    refine at_getr (pc := 15) (k' := 34) C 1 fw_2_11 kd33 rfl (Nat.le_of_ble_eq_true rfl) rfl rfl dX2_push_15 ?_
    refine at_iconst (pc := 18) C dX2_push_18 ?_
    refine at_bipush (pc := 19) C dX2_push_19 (by decide) ?_
    obtain ⟨y7, hF⟩ := grd_some hF
    refine at_copy (pc := 21) C kc w882 kd34 kd34 y7 ⟨(Nat.le_of_ble_eq_true rfl), (Nat.le_of_ble_eq_true rfl)⟩ dX2_push_21 ?_
    refine at_aload_n (pc := 24) C 0 dX2_push_24 rfl rfl ?_
    refine at_bipush (pc := 25) C dX2_push_25 (by decide) ?_
    refine at_puti (pc := 27) (jz := 1) C fu_2_15 kd33 rfl (Nat.le_of_ble_eq_true rfl) rfl rfl dX2_push_27 ?_
    exact J30 v1 v2 v3 v4 v5 (upI (cpI σ 34 5 34 0 95) 33 1 19) h1 h2 h3 h4 h5 (OK_up (k := 33) (j := 1) (OK_cp (ks := 34) (sp := 5) (kd := 34) (dp := 0) (n := 95) ok) (show inR 19 from ⟨by decide, by decide⟩)) hF
abbrev rm_X2_pop : Room := { frames := 1, cells := 0, slots := 0, locals := 21 }
def F_X2_pop (N : Nat)  (σ : Sto) : Option (Int × Sto) :=
  some ((jm ((upI σ 33 1 (jmax 0 (js (σ.1 33 1) 1))).1 33 1) 5), (upI σ 33 1 (jmax 0 (js (σ.1 33 1) 1))))
set_option maxHeartbeats 4000000 in
set_option maxRecDepth 100000 in
theorem c_X2_pop (l : Launch) (g : Geo) (N : Nat)  (σ : Sto) (res : Int × Sto)  (ok : OK σ) (hF : F_X2_pop N  σ = some res) : MtI l g yX2_pop cX2_pop 1 (some .int) rm_X2_pop [vr g 33] σ res.1 res.2 inR := by
  intro sz
  refine Met.ofAt (own := RX2) (QQ := fun z => QI g z res.1 res.2 inR) (by decide +kernel) (Nat.le_of_ble_eq_true rfl) rfl ?_
  intro p e s m args below meth c C hr hlk
  show At p l e rm_X2_pop s m args below meth c 0 0 g 1 (MQ below (QI g s.heap.size res.1 res.2 inR) args s 0 0 (AA g s.heap.size)) 0 [(0, vr g 33)] [] σ
  unfold F_X2_pop at hF
  refine at_aload_n (pc := 0) C 0 dX2_pop_0 rfl rfl ?_
  refine at_iconst (pc := 1) C dX2_pop_1 ?_
  refine at_aload_n (pc := 2) C 0 dX2_pop_2 rfl rfl ?_
  refine at_geti (pc := 3) (jz := 1) C fw_2_15 kd33 rfl (Nat.le_of_ble_eq_true rfl) rfl rfl dX2_pop_3 ?_
  refine at_iconst (pc := 6) C dX2_pop_6 ?_
  refine at_isub (pc := 7) C dX2_pop_7 ?_
  refine at_mmax (pc := 8) C km_max w1188 (isB.r (Or.inl rfl)) (js_R (σ.1 33 1) 1) ⟨(Nat.le_of_ble_eq_true rfl), (Nat.le_of_ble_eq_true rfl)⟩ dX2_pop_8 ?_
  refine at_puti (pc := 11) (jz := 1) C fu_2_15 kd33 rfl (Nat.le_of_ble_eq_true rfl) rfl rfl dX2_pop_11 ?_
  refine at_aload_n (pc := 14) C 0 dX2_pop_14 rfl rfl ?_
  refine at_geti (pc := 15) (jz := 1) C fw_2_15 kd33 rfl (Nat.le_of_ble_eq_true rfl) rfl rfl dX2_pop_15 ?_
  refine at_iconst (pc := 18) C dX2_pop_18 ?_
  refine at_imul (pc := 19) C dX2_pop_19 ?_
  obtain rfl := Option.some.inj hF
  exact at_iret (pc := 20) C hr hlk (jm_R ((upI σ 33 1 (jmax 0 (js (σ.1 33 1) 1))).1 33 1) 5) (OK_up (k := 33) (j := 1) ok (jmax_R (isB.r (Or.inl rfl)) (js_R (σ.1 33 1) 1))) dX2_pop_20
abbrev rm_X4_addStart : Room := { frames := 0, cells := 0, slots := 0, locals := 0 }
def F_X4_addStart_J85 (N : Nat)  (v0 : Nat) (v1 : Int) (v2 : Int) (σ : Sto) : Option (Sto) :=
  inb v2 25 (some (upI (upI σ (v0 + 1) v2 v1) v0 2 (ja ((upI σ (v0 + 1) v2 v1).1 v0 2) 1)))
def F_X4_addStart_B51 (N : Nat) (nx51 : (Int × Sto) → Option (Sto)) (v0 : Nat) (v1 : Int) (v2 : Int) (v3 : Int) (σ : Sto) : Option (Sto) :=
  if v3 ≤ v2 then (F_X4_addStart_J85 N  v0 v1 v2 σ) else (if 25 ≤ v3 then (F_X4_addStart_J85 N  v0 v1 v2 σ) else (inb (js v3 1) 25 (inb v3 25 (nx51 ((js v3 1), (upI σ (v0 + 1) v3 (σ.1 (v0 + 1) (js v3 1))))))))
def F_X4_addStart_J46 (N : Nat)  (v0 : Nat) (v1 : Int) (v2 : Int) (σ : Sto) : Option (Sto) :=
  loopK (fun q nx51 => F_X4_addStart_B51 N  nx51 v0 v1 v2 q.1 q.2) N ((σ.1 v0 2), σ)
def F_X4_addStart_B10 (N : Nat) (nx10 : (Int × Int) → Option (Sto)) (v0 : Nat) (v1 : Int) (v2 : Int) (v3 : Int) (σ : Sto) : Option (Sto) :=
  if v3 ≤ 0 then (F_X4_addStart_J46 N  v0 v1 v2 σ) else (inb (js v2 1) 25 (if (σ.1 (v0 + 1) (js v2 1)) < v1 then (F_X4_addStart_J46 N  v0 v1 v2 σ) else (if (σ.1 (v0 + 1) (js v2 1)) = v1 then (some σ) else (nx10 ((js v2 1), (js v3 1))))))
def F_X4_addStart (N : Nat) (v0 : Nat) (v1 : Int) (σ : Sto) : Option (Sto) :=
  loopK (fun q nx10 => F_X4_addStart_B10 N  nx10 v0 v1 q.1 q.2 σ) N ((σ.1 v0 2), (σ.1 v0 2))
set_option maxHeartbeats 4000000 in
set_option maxRecDepth 100000 in
theorem c_X4_addStart (l : Launch) (g : Geo) (N : Nat) (v0 : Nat) (v1 : Int) (σ : Sto) (res : Sto) (hk0 : knd v0 = (14, 3)) (h1 : inR v1) (ok : OK σ) (hF : F_X4_addStart N v0 v1 σ = some res) : MtV l g yX4_addStart cX4_addStart 4 none rm_X4_addStart [vr g v0, vi v1] σ res := by
  intro sz
  refine Met.ofAt (own := RX4) (QQ := fun z => QV g z res) (by decide +kernel) (Nat.le_of_ble_eq_true rfl) rfl ?_
  intro p e s m args below meth c C hr hlk
  show At p l e rm_X4_addStart s m args below meth c 0 0 g 4 (MQ below (QV g s.heap.size res) args s 0 0 (AA g s.heap.size)) 0 [(0, vr g v0), (1, vi v1)] [] σ
  unfold F_X4_addStart at hF
  refine at_aload_n (pc := 0) C 0 dX4_addStart_0 rfl rfl ?_
  refine at_geti (pc := 1) (jz := 2) C fw_4_18 hk0 rfl (Nat.le_of_ble_eq_true rfl) rfl rfl dX4_addStart_1 ?_
  refine at_istore_n (pc := 4) (lv' := [(2, vi (σ.1 v0 2)), (0, vr g v0), (1, vi v1)]) C dX4_addStart_4 rfl (Nat.le_of_ble_eq_true rfl) rfl ?_
  refine at_aload_n (pc := 5) C 1 dX4_addStart_5 rfl rfl ?_
  refine at_geti (pc := 6) (jz := 2) C fw_4_18 hk0 rfl (Nat.le_of_ble_eq_true rfl) rfl rfl dX4_addStart_6 ?_
  refine at_istore_n (pc := 9) (lv' := [(3, vi (σ.1 v0 2)), (2, vi (σ.1 v0 2)), (0, vr g v0), (1, vi v1)]) C dX4_addStart_9 rfl (Nat.le_of_ble_eq_true rfl) rfl ?_
  have L10 : ∀ (v0 : Nat) (v1 : Int) (v2 : Int) (v3 : Int) (σ : Sto), knd v0 = (14, 3) → inR v1 → inR v2 → inR v3 → OK σ → loopK (fun q nx10 => F_X4_addStart_B10 N  nx10 v0 v1 q.1 q.2 σ) N (v2, v3) = some res → At p l e rm_X4_addStart s m args below meth c 0 0 g 4 (MQ below (QV g s.heap.size res) args s 0 0 (AA g s.heap.size)) 10 [(0, vr g v0), (1, vi v1), (2, vi v2), (3, vi v3)] [] σ := by
    intro v0 v1 v2 v3 σ hk0 h1 h2 h3 ok hF
    refine loopK_ind (res := res) (P := fun (q : Int × Int) => inR q.1 → inR q.2 → At p l e rm_X4_addStart s m args below meth c 0 0 g 4 (MQ below (QV g s.heap.size res) args s 0 0 (AA g s.heap.size)) 10 [(0, vr g v0), (1, vi v1), (2, vi q.1), (3, vi q.2)] [] σ) ?_ N _ hF h2 h3
    intro nx10 q ih10 hF
    obtain ⟨v2, v3⟩ := q
    intro h2 h3
    have hF : F_X4_addStart_B10 N  nx10 v0 v1 v2 v3 σ = some res := hF
    unfold F_X4_addStart_B10 at hF
    have J46 : ∀ (v0 : Nat) (v1 : Int) (v2 : Int) (σ : Sto), knd v0 = (14, 3) → inR v1 → inR v2 → OK σ → F_X4_addStart_J46 N  v0 v1 v2 σ = some res → At p l e rm_X4_addStart s m args below meth c 0 0 g 4 (MQ below (QV g s.heap.size res) args s 0 0 (AA g s.heap.size)) 46 [(0, vr g v0), (1, vi v1), (2, vi v2)] [] σ := by
      intro v0 v1 v2 σ hk0 h1 h2 ok hF
      unfold F_X4_addStart_J46 at hF
      refine at_aload_n (pc := 46) C 0 dX4_addStart_46 rfl rfl ?_
      refine at_geti (pc := 47) (jz := 2) C fw_4_18 hk0 rfl (Nat.le_of_ble_eq_true rfl) rfl rfl dX4_addStart_47 ?_
      refine at_istore_n (pc := 50) (lv' := [(3, vi (σ.1 v0 2)), (0, vr g v0), (1, vi v1), (2, vi v2)]) C dX4_addStart_50 rfl (Nat.le_of_ble_eq_true rfl) rfl ?_
      have L51 : ∀ (v0 : Nat) (v1 : Int) (v2 : Int) (v3 : Int) (σ : Sto), knd v0 = (14, 3) → inR v1 → inR v2 → inR v3 → OK σ → loopK (fun q nx51 => F_X4_addStart_B51 N  nx51 v0 v1 v2 q.1 q.2) N (v3, σ) = some res → At p l e rm_X4_addStart s m args below meth c 0 0 g 4 (MQ below (QV g s.heap.size res) args s 0 0 (AA g s.heap.size)) 51 [(0, vr g v0), (1, vi v1), (2, vi v2), (3, vi v3)] [] σ := by
        intro v0 v1 v2 v3 σ hk0 h1 h2 h3 ok hF
        refine loopK_ind (res := res) (P := fun (q : Int × Sto) => inR q.1 → OK q.2 → At p l e rm_X4_addStart s m args below meth c 0 0 g 4 (MQ below (QV g s.heap.size res) args s 0 0 (AA g s.heap.size)) 51 [(0, vr g v0), (1, vi v1), (2, vi v2), (3, vi q.1)] [] q.2) ?_ N _ hF h3 ok
        intro nx51 q ih51 hF
        obtain ⟨v3, σ⟩ := q
        intro h3 ok
        have hF : F_X4_addStart_B51 N  nx51 v0 v1 v2 v3 σ = some res := hF
        unfold F_X4_addStart_B51 at hF
        have J85 : ∀ (v0 : Nat) (v1 : Int) (v2 : Int) (σ : Sto), knd v0 = (14, 3) → inR v1 → inR v2 → OK σ → F_X4_addStart_J85 N  v0 v1 v2 σ = some res → At p l e rm_X4_addStart s m args below meth c 0 0 g 4 (MQ below (QV g s.heap.size res) args s 0 0 (AA g s.heap.size)) 85 [(0, vr g v0), (1, vi v1), (2, vi v2)] [] σ := by
          intro v0 v1 v2 σ hk0 h1 h2 ok hF
          unfold F_X4_addStart_J85 at hF
          refine at_aload_n (pc := 85) C 0 dX4_addStart_85 rfl rfl ?_
          refine at_getr (pc := 86) C 1 fw_4_9 hk0 rfl (Nat.le_of_ble_eq_true rfl) rfl rfl dX4_addStart_86 ?_
          refine at_iload_n (pc := 89) C 2 dX4_addStart_89 rfl rfl ?_
          refine at_iload_n (pc := 90) C 1 dX4_addStart_90 rfl rfl ?_
          obtain ⟨b1, hF⟩ := inb_some hF
          refine at_iastore (pc := 91) C (kf4_0 hk0) b1 dX4_addStart_91 ?_
          refine at_aload_n (pc := 92) C 0 dX4_addStart_92 rfl rfl ?_
          refine at_dup (pc := 93) C dX4_addStart_93 rfl ?_
          refine at_geti (pc := 94) (jz := 2) C fw_4_18 hk0 rfl (Nat.le_of_ble_eq_true rfl) rfl rfl dX4_addStart_94 ?_
          refine at_iconst (pc := 97) C dX4_addStart_97 ?_
          refine at_iadd (pc := 98) C dX4_addStart_98 ?_
          refine at_puti (pc := 99) (jz := 2) C fu_4_18 hk0 rfl (Nat.le_of_ble_eq_true rfl) rfl rfl dX4_addStart_99 ?_
          obtain rfl := Option.some.inj hF
          exact at_vret (pc := 102) C hr hlk (OK_up (k := v0) (j := 2) (OK_up (k := (v0 + 1)) (j := v2) ok h1) (ja_R ((upI σ (v0 + 1) v2 v1).1 v0 2) 1)) dX4_addStart_102
        refine at_iload_n (pc := 51) C 3 dX4_addStart_51 rfl rfl ?_
        refine at_iload_n (pc := 52) C 2 dX4_addStart_52 rfl rfl ?_
        refine at_icmp_le (pc := 53) (tgt := 85) C h3 h2 dX4_addStart_53 rfl (fun c2 => ?_) (fun c2 => ?_)
        · have hF := (if_pos c2).symm.trans hF
          refine at_sub (lv' := [(0, vr g v0), (1, vi v1), (2, vi v2)]) [0, 1, 2] rfl ?_
          exact J85 v0 v1 v2 σ hk0 h1 h2 ok hF
        · have hF := (if_neg c2).symm.trans hF
          refine at_iload_n (pc := 56) C 3 dX4_addStart_56 rfl rfl ?_
          refine at_aload_n (pc := 57) C 0 dX4_addStart_57 rfl rfl ?_
          refine at_getr (pc := 58) C 1 fw_4_9 hk0 rfl (Nat.le_of_ble_eq_true rfl) rfl rfl dX4_addStart_58 ?_
          refine at_alen (pc := 61) (nz := 25) C (kf4_0 hk0) rfl dX4_addStart_61 ?_
          refine at_icmp_ge (pc := 62) (tgt := 85) C h3 (show inR 25 from ⟨by decide, by decide⟩) dX4_addStart_62 rfl (fun c3 => ?_) (fun c3 => ?_)
          · have hF := (if_pos c3).symm.trans hF
            refine at_sub (lv' := [(0, vr g v0), (1, vi v1), (2, vi v2)]) [0, 1, 2] rfl ?_
            exact J85 v0 v1 v2 σ hk0 h1 h2 ok hF
          · have hF := (if_neg c3).symm.trans hF
            refine at_aload_n (pc := 65) C 0 dX4_addStart_65 rfl rfl ?_
            refine at_getr (pc := 66) C 1 fw_4_9 hk0 rfl (Nat.le_of_ble_eq_true rfl) rfl rfl dX4_addStart_66 ?_
            refine at_iload_n (pc := 69) C 3 dX4_addStart_69 rfl rfl ?_
            refine at_aload_n (pc := 70) C 0 dX4_addStart_70 rfl rfl ?_
            refine at_getr (pc := 71) C 1 fw_4_9 hk0 rfl (Nat.le_of_ble_eq_true rfl) rfl rfl dX4_addStart_71 ?_
            refine at_iload_n (pc := 74) C 3 dX4_addStart_74 rfl rfl ?_
            refine at_iconst (pc := 75) C dX4_addStart_75 ?_
            refine at_isub (pc := 76) C dX4_addStart_76 ?_
            obtain ⟨b4, hF⟩ := inb_some hF
            refine at_iaload (pc := 77) C (kf4_0 hk0) b4 dX4_addStart_77 ?_
            obtain ⟨b5, hF⟩ := inb_some hF
            refine at_iastore (pc := 78) C (kf4_0 hk0) b5 dX4_addStart_78 ?_
            refine at_idec (pc := 79) (k := 1) (lv' := [(3, vi (js v3 1)), (0, vr g v0), (1, vi v1), (2, vi v2)]) C (by decide) 3 dX4_addStart_79 rfl (Nat.le_of_ble_eq_true rfl) rfl ?_
            refine at_goto (pc := 82) (tgt := 51) C dX4_addStart_82 rfl ?_
            refine at_sub (lv' := [(0, vr g v0), (1, vi v1), (2, vi v2), (3, vi (js v3 1))]) [1, 2, 3, 0] rfl ?_
            exact ih51 _ hF (js_R v3 1) (OK_up (k := (v0 + 1)) (j := v3) ok (ok (v0 + 1) (js v3 1)))
      refine at_sub (lv' := [(0, vr g v0), (1, vi v1), (2, vi v2), (3, vi (σ.1 v0 2))]) [1, 2, 3, 0] rfl ?_
      exact L51 v0 v1 v2 (σ.1 v0 2) σ hk0 h1 h2 (ok v0 2) ok hF
    refine at_iload_n (pc := 10) C 3 dX4_addStart_10 rfl rfl ?_
    refine at_if_le (pc := 11) (tgt := 46) C h3 dX4_addStart_11 rfl (fun c6 => ?_) (fun c6 => ?_)
    · have hF := (if_pos c6).symm.trans hF
      refine at_sub (lv' := [(0, vr g v0), (1, vi v1), (2, vi v2)]) [0, 1, 2] rfl ?_
      exact J46 v0 v1 v2 σ hk0 h1 h2 ok hF
    · have hF := (if_neg c6).symm.trans hF
      refine at_aload_n (pc := 14) C 0 dX4_addStart_14 rfl rfl ?_
      refine at_getr (pc := 15) C 1 fw_4_9 hk0 rfl (Nat.le_of_ble_eq_true rfl) rfl rfl dX4_addStart_15 ?_
      refine at_iload_n (pc := 18) C 2 dX4_addStart_18 rfl rfl ?_
      refine at_iconst (pc := 19) C dX4_addStart_19 ?_
      refine at_isub (pc := 20) C dX4_addStart_20 ?_
      obtain ⟨b7, hF⟩ := inb_some hF
      refine at_iaload (pc := 21) C (kf4_0 hk0) b7 dX4_addStart_21 ?_
      refine at_iload_n (pc := 22) C 1 dX4_addStart_22 rfl rfl ?_
      refine at_icmp_lt (pc := 23) (tgt := 46) C (ok (v0 + 1) (js v2 1)) h1 dX4_addStart_23 rfl (fun c8 => ?_) (fun c8 => ?_)
      · have hF := (if_pos c8).symm.trans hF
        refine at_sub (lv' := [(0, vr g v0), (1, vi v1), (2, vi v2)]) [0, 1, 2] rfl ?_
        exact J46 v0 v1 v2 σ hk0 h1 h2 ok hF
      · have hF := (if_neg c8).symm.trans hF
        refine at_idec (pc := 26) (k := 1) (lv' := [(2, vi (js v2 1)), (0, vr g v0), (1, vi v1), (3, vi v3)]) C (by decide) 2 dX4_addStart_26 rfl (Nat.le_of_ble_eq_true rfl) rfl ?_
        refine at_aload_n (pc := 29) C 1 dX4_addStart_29 rfl rfl ?_
        refine at_getr (pc := 30) C 1 fw_4_9 hk0 rfl (Nat.le_of_ble_eq_true rfl) rfl rfl dX4_addStart_30 ?_
        refine at_iload_n (pc := 33) C 0 dX4_addStart_33 rfl rfl ?_
        refine at_iaload (pc := 34) C (kf4_0 hk0) b7 dX4_addStart_34 ?_
        refine at_iload_n (pc := 35) C 2 dX4_addStart_35 rfl rfl ?_
        refine at_icmp_ne (pc := 36) (tgt := 40) C (ok (v0 + 1) (js v2 1)) h1 dX4_addStart_36 rfl (fun c9 => ?_) (fun c9 => ?_)
        · have hF := (if_neg c9).symm.trans hF
          refine at_idec (pc := 40) (k := 1) (lv' := [(3, vi (js v3 1)), (2, vi (js v2 1)), (0, vr g v0), (1, vi v1)]) C (by decide) 3 dX4_addStart_40 rfl (Nat.le_of_ble_eq_true rfl) rfl ?_
          refine at_goto (pc := 43) (tgt := 10) C dX4_addStart_43 rfl ?_
          refine at_sub (lv' := [(0, vr g v0), (1, vi v1), (2, vi (js v2 1)), (3, vi (js v3 1))]) [2, 3, 1, 0] rfl ?_
          exact ih10 _ hF (js_R v2 1) (js_R v3 1)
        · have hF := (if_pos c9).symm.trans hF
          obtain rfl := Option.some.inj hF
          exact at_vret (pc := 39) C hr hlk ok dX4_addStart_39
  refine at_sub (lv' := [(0, vr g v0), (1, vi v1), (2, vi (σ.1 v0 2)), (3, vi (σ.1 v0 2))]) [2, 3, 1, 0] rfl ?_
  exact L10 v0 v1 (σ.1 v0 2) (σ.1 v0 2) σ hk0 h1 (ok v0 2) (ok v0 2) ok hF
abbrev rm_X10_loadPercents : Room := { frames := 0, cells := 0, slots := 0, locals := 0 }
def F_X10_loadPercents_J142 (N : Nat) (nx64 : (Int × Sto) → Option (Sto)) (v1 : Nat) (v2 : Int) (v3 : Int) (σ : Sto) : Option (Sto) :=
  nx64 ((ja v3 1), σ)
def F_X10_loadPercents_B64 (N : Nat) (nx64 : (Int × Sto) → Option (Sto)) (v1 : Nat) (v2 : Int) (v3 : Int) (σ : Sto) : Option (Sto) :=
  if (σ.1 v1 4) ≤ v3 then (some σ) else (inb v3 24 (if v2 < (σ.1 (v1 + 4) v3) then (F_X10_loadPercents_J142 N nx64 v1 v2 v3 σ) else (inb (ja (jm (σ.1 (v1 + 1) v3) 8) (σ.1 (v1 + 2) v3)) 64 (if (σ.1 (v1 + 4) v3) < (σ.1 48 (ja (jm (σ.1 (v1 + 1) v3) 8) (σ.1 (v1 + 2) v3))) then (F_X10_loadPercents_J142 N nx64 v1 v2 v3 σ) else (F_X10_loadPercents_J142 N nx64 v1 v2 v3 (upI (upI σ 48 (ja (jm (σ.1 (v1 + 1) v3) 8) (σ.1 (v1 + 2) v3)) (σ.1 (v1 + 4) v3)) 47 (ja (jm (σ.1 (v1 + 1) v3) 8) (σ.1 (v1 + 2) v3)) ((upI σ 48 (ja (jm (σ.1 (v1 + 1) v3) 8) (σ.1 (v1 + 2) v3)) (σ.1 (v1 + 4) v3)).1 (v1 + 3) v3)))))))
def F_X10_loadPercents_J62 (N : Nat)  (v1 : Nat) (v2 : Int) (σ : Sto) : Option (Sto) :=
  loopK (fun q nx64 => F_X10_loadPercents_B64 N  nx64 v1 v2 q.1 q.2) N (0, σ)
def F_X10_loadPercents_J56 (N : Nat) (nx2 : (Int × Sto) → Option (Sto)) (v1 : Nat) (v2 : Int) (v3 : Int) (σ : Sto) : Option (Sto) :=
  nx2 ((ja v3 1), σ)
def F_X10_loadPercents_B15 (N : Nat) (nx2 : (Int × Sto) → Option (Sto)) (nx15 : (Int × Sto) → Option (Sto)) (v1 : Nat) (v2 : Int) (v3 : Int) (v4 : Int) (σ : Sto) : Option (Sto) :=
  if (σ.1 46 5) ≤ v4 then (F_X10_loadPercents_J56 N nx2 v1 v2 v3 σ) else (inb (ja (jm v3 8) v4) 64 (nx15 ((ja v4 1), (upI (upI σ 47 (ja (jm v3 8) v4) 0) 48 (ja (jm v3 8) v4) (-1)))))
def F_X10_loadPercents_B2 (N : Nat) (nx2 : (Int × Sto) → Option (Sto)) (v1 : Nat) (v2 : Int) (v3 : Int) (σ : Sto) : Option (Sto) :=
  if (σ.1 46 5) ≤ v3 then (F_X10_loadPercents_J62 N  v1 v2 σ) else (loopK (fun q nx15 => F_X10_loadPercents_B15 N nx2 nx15 v1 v2 v3 q.1 q.2) N ((ja v3 1), σ))
def F_X10_loadPercents (N : Nat) (v1 : Nat) (v2 : Int) (σ : Sto) : Option (Sto) :=
  loopK (fun q nx2 => F_X10_loadPercents_B2 N  nx2 v1 v2 q.1 q.2) N (0, σ)
set_option maxHeartbeats 4000000 in
set_option maxRecDepth 100000 in
theorem c_X10_loadPercents (l : Launch) (g : Geo) (N : Nat) (v1 : Nat) (v2 : Int) (σ : Sto) (res : Sto) (hk1 : knd v1 = (17, 5)) (h2 : inR v2) (ok : OK σ) (hF : F_X10_loadPercents N v1 v2 σ = some res) : MtV l g yX10_loadPercents cX10_loadPercents 5 none rm_X10_loadPercents [vr g 46, vr g v1, vi v2] σ res := by
  intro sz
  refine Met.ofAt (own := RX10) (QQ := fun z => QV g z res) (by decide +kernel) (Nat.le_of_ble_eq_true rfl) rfl ?_
  intro p e s m args below meth c C hr hlk
  show At p l e rm_X10_loadPercents s m args below meth c 0 0 g 5 (MQ below (QV g s.heap.size res) args s 0 0 (AA g s.heap.size)) 0 [(0, vr g 46), (1, vr g v1), (2, vi v2)] [] σ
  unfold F_X10_loadPercents at hF
  refine at_iconst (pc := 0) C dX10_loadPercents_0 ?_
  refine at_istore_n (pc := 1) (lv' := [(3, vi 0), (0, vr g 46), (1, vr g v1), (2, vi v2)]) C dX10_loadPercents_1 rfl (Nat.le_of_ble_eq_true rfl) rfl ?_
  have L2 : ∀ (v1 : Nat) (v2 : Int) (v3 : Int) (σ : Sto), knd v1 = (17, 5) → inR v2 → inR v3 → OK σ → loopK (fun q nx2 => F_X10_loadPercents_B2 N  nx2 v1 v2 q.1 q.2) N (v3, σ) = some res → At p l e rm_X10_loadPercents s m args below meth c 0 0 g 5 (MQ below (QV g s.heap.size res) args s 0 0 (AA g s.heap.size)) 2 [(0, vr g 46), (1, vr g v1), (2, vi v2), (3, vi v3)] [] σ := by
    intro v1 v2 v3 σ hk1 h2 h3 ok hF
    refine loopK_ind (res := res) (P := fun (q : Int × Sto) => inR q.1 → OK q.2 → At p l e rm_X10_loadPercents s m args below meth c 0 0 g 5 (MQ below (QV g s.heap.size res) args s 0 0 (AA g s.heap.size)) 2 [(0, vr g 46), (1, vr g v1), (2, vi v2), (3, vi q.1)] [] q.2) ?_ N _ hF h3 ok
    intro nx2 q ih2 hF
    obtain ⟨v3, σ⟩ := q
    intro h3 ok
    have hF : F_X10_loadPercents_B2 N  nx2 v1 v2 v3 σ = some res := hF
    unfold F_X10_loadPercents_B2 at hF
    have J62 : ∀ (v1 : Nat) (v2 : Int) (σ : Sto), knd v1 = (17, 5) → inR v2 → OK σ → F_X10_loadPercents_J62 N  v1 v2 σ = some res → At p l e rm_X10_loadPercents s m args below meth c 0 0 g 5 (MQ below (QV g s.heap.size res) args s 0 0 (AA g s.heap.size)) 62 [(0, vr g 46), (1, vr g v1), (2, vi v2)] [] σ := by
      intro v1 v2 σ hk1 h2 ok hF
      unfold F_X10_loadPercents_J62 at hF
      refine at_iconst (pc := 62) C dX10_loadPercents_62 ?_
      refine at_istore_n (pc := 63) (lv' := [(3, vi 0), (0, vr g 46), (1, vr g v1), (2, vi v2)]) C dX10_loadPercents_63 rfl (Nat.le_of_ble_eq_true rfl) rfl ?_
      have L64 : ∀ (v1 : Nat) (v2 : Int) (v3 : Int) (σ : Sto), knd v1 = (17, 5) → inR v2 → inR v3 → OK σ → loopK (fun q nx64 => F_X10_loadPercents_B64 N  nx64 v1 v2 q.1 q.2) N (v3, σ) = some res → At p l e rm_X10_loadPercents s m args below meth c 0 0 g 5 (MQ below (QV g s.heap.size res) args s 0 0 (AA g s.heap.size)) 64 [(0, vr g 46), (1, vr g v1), (2, vi v2), (3, vi v3)] [] σ := by
        intro v1 v2 v3 σ hk1 h2 h3 ok hF
        refine loopK_ind (res := res) (P := fun (q : Int × Sto) => inR q.1 → OK q.2 → At p l e rm_X10_loadPercents s m args below meth c 0 0 g 5 (MQ below (QV g s.heap.size res) args s 0 0 (AA g s.heap.size)) 64 [(0, vr g 46), (1, vr g v1), (2, vi v2), (3, vi q.1)] [] q.2) ?_ N _ hF h3 ok
        intro nx64 q ih64 hF
        obtain ⟨v3, σ⟩ := q
        intro h3 ok
        have hF : F_X10_loadPercents_B64 N  nx64 v1 v2 v3 σ = some res := hF
        unfold F_X10_loadPercents_B64 at hF
        refine at_iload_n (pc := 64) C 3 dX10_loadPercents_64 rfl rfl ?_
        refine at_aload_n (pc := 65) C 1 dX10_loadPercents_65 rfl rfl ?_
        refine at_geti (pc := 66) (jz := 4) C fw_10_46 hk1 rfl (Nat.le_of_ble_eq_true rfl) rfl rfl dX10_loadPercents_66 ?_
        refine at_icmp_ge (pc := 69) (tgt := 148) C h3 (ok v1 4) dX10_loadPercents_69 rfl (fun c1 => ?_) (fun c1 => ?_)
        · have hF := (if_pos c1).symm.trans hF
          obtain rfl := Option.some.inj hF
          exact at_vret (pc := 148) C hr hlk ok dX10_loadPercents_148
        · have hF := (if_neg c1).symm.trans hF
          have J142 : ∀ (v3 : Int) (σ : Sto), inR v3 → OK σ → F_X10_loadPercents_J142 N nx64 v1 v2 v3 σ = some res → At p l e rm_X10_loadPercents s m args below meth c 0 0 g 5 (MQ below (QV g s.heap.size res) args s 0 0 (AA g s.heap.size)) 142 [(0, vr g 46), (1, vr g v1), (2, vi v2), (3, vi v3)] [] σ := by
            intro v3 σ h3 ok hF
            unfold F_X10_loadPercents_J142 at hF
            refine at_iinc (pc := 142) (lv' := [(3, vi (ja v3 1)), (0, vr g 46), (1, vr g v1), (2, vi v2)]) C 3 dX10_loadPercents_142 rfl (Nat.le_of_ble_eq_true rfl) rfl ?_
            refine at_goto (pc := 145) (tgt := 64) C dX10_loadPercents_145 rfl ?_
            refine at_sub (lv' := [(0, vr g 46), (1, vr g v1), (2, vi v2), (3, vi (ja v3 1))]) [1, 2, 3, 0] rfl ?_
            exact ih64 _ hF (ja_R v3 1) ok
          refine at_aload_n (pc := 72) C 1 dX10_loadPercents_72 rfl rfl ?_
          refine at_getr (pc := 73) C 1 fw_10_51 hk1 rfl (Nat.le_of_ble_eq_true rfl) rfl rfl dX10_loadPercents_73 ?_
          refine at_iload_n (pc := 76) C 3 dX10_loadPercents_76 rfl rfl ?_
          obtain ⟨b2, hF⟩ := inb_some hF
          refine at_iaload (pc := 77) C (kf7_0 hk1) b2 dX10_loadPercents_77 ?_
          refine at_bipush (pc := 78) C dX10_loadPercents_78 (by decide) ?_
          refine at_imul (pc := 80) C dX10_loadPercents_80 ?_
          refine at_aload_n (pc := 81) C 1 dX10_loadPercents_81 rfl rfl ?_
          refine at_getr (pc := 82) C 2 fw_10_54 hk1 rfl (Nat.le_of_ble_eq_true rfl) rfl rfl dX10_loadPercents_82 ?_
          refine at_iload_n (pc := 85) C 3 dX10_loadPercents_85 rfl rfl ?_
          refine at_iaload (pc := 86) C (kf7_1 hk1) b2 dX10_loadPercents_86 ?_
          refine at_iadd (pc := 87) C dX10_loadPercents_87 ?_
          refine at_istore (pc := 88) (lv' := [(4, vi (ja (jm (σ.1 (v1 + 1) v3) 8) (σ.1 (v1 + 2) v3))), (0, vr g 46), (1, vr g v1), (2, vi v2), (3, vi v3)]) C dX10_loadPercents_88 (Nat.le_of_ble_eq_true rfl) rfl ?_
          refine at_aload_n (pc := 90) C 2 dX10_loadPercents_90 rfl rfl ?_
          refine at_getr (pc := 91) C 4 fw_10_57 hk1 rfl (Nat.le_of_ble_eq_true rfl) rfl rfl dX10_loadPercents_91 ?_
          refine at_iload_n (pc := 94) C 4 dX10_loadPercents_94 rfl rfl ?_
          refine at_iaload (pc := 95) C (kf7_3 hk1) b2 dX10_loadPercents_95 ?_
          refine at_iload_n (pc := 96) C 3 dX10_loadPercents_96 rfl rfl ?_
          refine at_icmp_gt (pc := 97) (tgt := 142) C (ok (v1 + 4) v3) h2 dX10_loadPercents_97 rfl (fun c3 => ?_) (fun c3 => ?_)
          · have hF := (if_pos c3).symm.trans hF
            refine at_sub (lv' := [(0, vr g 46), (1, vr g v1), (2, vi v2), (3, vi v3)]) [1, 2, 3, 4] rfl ?_
            exact J142 v3 σ h3 ok hF
          · have hF := (if_neg c3).symm.trans hF
            refine at_aload_n (pc := 100) C 2 dX10_loadPercents_100 rfl rfl ?_
            refine at_getr (pc := 101) C 4 fw_10_57 hk1 rfl (Nat.le_of_ble_eq_true rfl) rfl rfl dX10_loadPercents_101 ?_
            refine at_iload_n (pc := 104) C 4 dX10_loadPercents_104 rfl rfl ?_
            refine at_iaload (pc := 105) C (kf7_3 hk1) b2 dX10_loadPercents_105 ?_
            refine at_aload_n (pc := 106) C 1 dX10_loadPercents_106 rfl rfl ?_
            refine at_getr (pc := 107) (k' := 48) C 2 fw_10_15 kd46 rfl (Nat.le_of_ble_eq_true rfl) rfl rfl dX10_loadPercents_107 ?_
            refine at_iload (pc := 110) C 0 dX10_loadPercents_110 rfl ?_
            obtain ⟨b4, hF⟩ := inb_some hF
            refine at_iaload (pc := 112) C kd48 b4 dX10_loadPercents_112 ?_
            refine at_icmp_lt (pc := 113) (tgt := 142) C (ok (v1 + 4) v3) (ok 48 (ja (jm (σ.1 (v1 + 1) v3) 8) (σ.1 (v1 + 2) v3))) dX10_loadPercents_113 rfl (fun c5 => ?_) (fun c5 => ?_)
            · have hF := (if_pos c5).symm.trans hF
              refine at_sub (lv' := [(0, vr g 46), (1, vr g v1), (2, vi v2), (3, vi v3)]) [1, 2, 3, 4] rfl ?_
              exact J142 v3 σ h3 ok hF
            · have hF := (if_neg c5).symm.trans hF
              refine at_aload_n (pc := 116) C 1 dX10_loadPercents_116 rfl rfl ?_
              refine at_getr (pc := 117) (k' := 48) C 2 fw_10_15 kd46 rfl (Nat.le_of_ble_eq_true rfl) rfl rfl dX10_loadPercents_117 ?_
              refine at_iload (pc := 120) C 0 dX10_loadPercents_120 rfl ?_
              refine at_aload_n (pc := 122) C 2 dX10_loadPercents_122 rfl rfl ?_
              refine at_getr (pc := 123) C 4 fw_10_57 hk1 rfl (Nat.le_of_ble_eq_true rfl) rfl rfl dX10_loadPercents_123 ?_
              refine at_iload_n (pc := 126) C 4 dX10_loadPercents_126 rfl rfl ?_
              refine at_iaload (pc := 127) C (kf7_3 hk1) b2 dX10_loadPercents_127 ?_
              refine at_iastore (pc := 128) C kd48 b4 dX10_loadPercents_128 ?_
              refine at_aload_n (pc := 129) C 1 dX10_loadPercents_129 rfl rfl ?_
              refine at_getr (pc := 130) (k' := 47) C 1 fw_10_9 kd46 rfl (Nat.le_of_ble_eq_true rfl) rfl rfl dX10_loadPercents_130 ?_
              refine at_iload (pc := 133) C 0 dX10_loadPercents_133 rfl ?_
              refine at_aload_n (pc := 135) C 2 dX10_loadPercents_135 rfl rfl ?_
              refine at_getr (pc := 136) C 3 fw_10_58 hk1 rfl (Nat.le_of_ble_eq_true rfl) rfl rfl dX10_loadPercents_136 ?_
              refine at_iload_n (pc := 139) C 4 dX10_loadPercents_139 rfl rfl ?_
              refine at_iaload (pc := 140) C (kf7_2 hk1) b2 dX10_loadPercents_140 ?_
              refine at_iastore (pc := 141) C kd47 b4 dX10_loadPercents_141 ?_
              refine at_sub (lv' := [(0, vr g 46), (1, vr g v1), (2, vi v2), (3, vi v3)]) [1, 2, 3, 4] rfl ?_
              exact J142 v3 (upI (upI σ 48 (ja (jm (σ.1 (v1 + 1) v3) 8) (σ.1 (v1 + 2) v3)) (σ.1 (v1 + 4) v3)) 47 (ja (jm (σ.1 (v1 + 1) v3) 8) (σ.1 (v1 + 2) v3)) ((upI σ 48 (ja (jm (σ.1 (v1 + 1) v3) 8) (σ.1 (v1 + 2) v3)) (σ.1 (v1 + 4) v3)).1 (v1 + 3) v3)) h3 (OK_up (k := 47) (j := (ja (jm (σ.1 (v1 + 1) v3) 8) (σ.1 (v1 + 2) v3))) (OK_up (k := 48) (j := (ja (jm (σ.1 (v1 + 1) v3) 8) (σ.1 (v1 + 2) v3))) ok (ok (v1 + 4) v3)) ((OK_up (k := 48) (j := (ja (jm (σ.1 (v1 + 1) v3) 8) (σ.1 (v1 + 2) v3))) ok (ok (v1 + 4) v3)) (v1 + 3) v3)) hF
      refine at_sub (lv' := [(0, vr g 46), (1, vr g v1), (2, vi v2), (3, vi 0)]) [1, 2, 3, 0] rfl ?_
      exact L64 v1 v2 0 σ hk1 h2 (isB.r (Or.inl rfl)) ok hF
    refine at_iload_n (pc := 2) C 3 dX10_loadPercents_2 rfl rfl ?_
    refine at_aload_n (pc := 3) C 0 dX10_loadPercents_3 rfl rfl ?_
    refine at_geti (pc := 4) (jz := 5) C fw_10_28 kd46 rfl (Nat.le_of_ble_eq_true rfl) rfl rfl dX10_loadPercents_4 ?_
    refine at_icmp_ge (pc := 7) (tgt := 62) C h3 (ok 46 5) dX10_loadPercents_7 rfl (fun c6 => ?_) (fun c6 => ?_)
    · have hF := (if_pos c6).symm.trans hF
      refine at_sub (lv' := [(0, vr g 46), (1, vr g v1), (2, vi v2)]) [0, 1, 2] rfl ?_
      exact J62 v1 v2 σ hk1 h2 ok hF
    · have hF := (if_neg c6).symm.trans hF
      refine at_iload_n (pc := 10) C 3 dX10_loadPercents_10 rfl rfl ?_
      refine at_iconst (pc := 11) C dX10_loadPercents_11 ?_
      refine at_iadd (pc := 12) C dX10_loadPercents_12 ?_
      refine at_istore (pc := 13) (lv' := [(4, vi (ja v3 1)), (0, vr g 46), (1, vr g v1), (2, vi v2), (3, vi v3)]) C dX10_loadPercents_13 (Nat.le_of_ble_eq_true rfl) rfl ?_
      have L15 : ∀ (v3 : Int) (v4 : Int) (σ : Sto), inR v3 → inR v4 → OK σ → loopK (fun q nx15 => F_X10_loadPercents_B15 N nx2 nx15 v1 v2 v3 q.1 q.2) N (v4, σ) = some res → At p l e rm_X10_loadPercents s m args below meth c 0 0 g 5 (MQ below (QV g s.heap.size res) args s 0 0 (AA g s.heap.size)) 15 [(0, vr g 46), (1, vr g v1), (2, vi v2), (3, vi v3), (4, vi v4)] [] σ := by
        intro v3 v4 σ h3 h4 ok hF
        refine loopK_ind (res := res) (P := fun (q : Int × Sto) => inR q.1 → OK q.2 → At p l e rm_X10_loadPercents s m args below meth c 0 0 g 5 (MQ below (QV g s.heap.size res) args s 0 0 (AA g s.heap.size)) 15 [(0, vr g 46), (1, vr g v1), (2, vi v2), (3, vi v3), (4, vi q.1)] [] q.2) ?_ N _ hF h4 ok
        intro nx15 q ih15 hF
        obtain ⟨v4, σ⟩ := q
        intro h4 ok
        have hF : F_X10_loadPercents_B15 N nx2 nx15 v1 v2 v3 v4 σ = some res := hF
        unfold F_X10_loadPercents_B15 at hF
        have J56 : ∀ (v3 : Int) (σ : Sto), inR v3 → OK σ → F_X10_loadPercents_J56 N nx2 v1 v2 v3 σ = some res → At p l e rm_X10_loadPercents s m args below meth c 0 0 g 5 (MQ below (QV g s.heap.size res) args s 0 0 (AA g s.heap.size)) 56 [(0, vr g 46), (1, vr g v1), (2, vi v2), (3, vi v3)] [] σ := by
          intro v3 σ h3 ok hF
          unfold F_X10_loadPercents_J56 at hF
          refine at_iinc (pc := 56) (lv' := [(3, vi (ja v3 1)), (0, vr g 46), (1, vr g v1), (2, vi v2)]) C 3 dX10_loadPercents_56 rfl (Nat.le_of_ble_eq_true rfl) rfl ?_
          refine at_goto (pc := 59) (tgt := 2) C dX10_loadPercents_59 rfl ?_
          refine at_sub (lv' := [(0, vr g 46), (1, vr g v1), (2, vi v2), (3, vi (ja v3 1))]) [1, 2, 3, 0] rfl ?_
          exact ih2 _ hF (ja_R v3 1) ok
        refine at_iload (pc := 15) C 4 dX10_loadPercents_15 rfl ?_
        refine at_aload_n (pc := 17) C 0 dX10_loadPercents_17 rfl rfl ?_
        refine at_geti (pc := 18) (jz := 5) C fw_10_28 kd46 rfl (Nat.le_of_ble_eq_true rfl) rfl rfl dX10_loadPercents_18 ?_
        refine at_icmp_ge (pc := 21) (tgt := 56) C h4 (ok 46 5) dX10_loadPercents_21 rfl (fun c7 => ?_) (fun c7 => ?_)
        · have hF := (if_pos c7).symm.trans hF
          refine at_sub (lv' := [(0, vr g 46), (1, vr g v1), (2, vi v2), (3, vi v3)]) [0, 1, 2, 3] rfl ?_
          exact J56 v3 σ h3 ok hF
        · have hF := (if_neg c7).symm.trans hF
          refine at_aload_n (pc := 24) C 0 dX10_loadPercents_24 rfl rfl ?_
          refine at_getr (pc := 25) (k' := 47) C 1 fw_10_9 kd46 rfl (Nat.le_of_ble_eq_true rfl) rfl rfl dX10_loadPercents_25 ?_
          refine at_iload_n (pc := 28) C 3 dX10_loadPercents_28 rfl rfl ?_
          refine at_bipush (pc := 29) C dX10_loadPercents_29 (by decide) ?_
          refine at_imul (pc := 31) C dX10_loadPercents_31 ?_
          refine at_iload (pc := 32) C 4 dX10_loadPercents_32 rfl ?_
          refine at_iadd (pc := 34) C dX10_loadPercents_34 ?_
          refine at_iconst (pc := 35) C dX10_loadPercents_35 ?_
          obtain ⟨b8, hF⟩ := inb_some hF
          refine at_iastore (pc := 36) C kd47 b8 dX10_loadPercents_36 ?_
          refine at_aload_n (pc := 37) C 0 dX10_loadPercents_37 rfl rfl ?_
          refine at_getr (pc := 38) (k' := 48) C 2 fw_10_15 kd46 rfl (Nat.le_of_ble_eq_true rfl) rfl rfl dX10_loadPercents_38 ?_
          refine at_iload_n (pc := 41) C 3 dX10_loadPercents_41 rfl rfl ?_
          refine at_bipush (pc := 42) C dX10_loadPercents_42 (by decide) ?_
          refine at_imul (pc := 44) C dX10_loadPercents_44 ?_
          refine at_iload (pc := 45) C 4 dX10_loadPercents_45 rfl ?_
          refine at_iadd (pc := 47) C dX10_loadPercents_47 ?_
          refine at_iconst (pc := 48) C dX10_loadPercents_48 ?_
          refine at_iastore (pc := 49) C kd48 b8 dX10_loadPercents_49 ?_
          refine at_iinc (pc := 50) (lv' := [(4, vi (ja v4 1)), (0, vr g 46), (1, vr g v1), (2, vi v2), (3, vi v3)]) C 4 dX10_loadPercents_50 rfl (Nat.le_of_ble_eq_true rfl) rfl ?_
          refine at_goto (pc := 53) (tgt := 15) C dX10_loadPercents_53 rfl ?_
          refine at_sub (lv' := [(0, vr g 46), (1, vr g v1), (2, vi v2), (3, vi v3), (4, vi (ja v4 1))]) [1, 2, 3, 4, 0] rfl ?_
          exact ih15 _ hF (ja_R v4 1) (OK_up (k := 48) (j := (ja (jm v3 8) v4)) (OK_up (k := 47) (j := (ja (jm v3 8) v4)) ok (isB.r (Or.inl rfl))) (show inR (-1) from ⟨by decide, by decide⟩))
      refine at_sub (lv' := [(0, vr g 46), (1, vr g v1), (2, vi v2), (3, vi v3), (4, vi (ja v3 1))]) [1, 2, 3, 4, 0] rfl ?_
      exact L15 v3 (ja v3 1) σ h3 (ja_R v3 1) ok hF
  refine at_sub (lv' := [(0, vr g 46), (1, vr g v1), (2, vi v2), (3, vi 0)]) [1, 2, 3, 0] rfl ?_
  exact L2 v1 v2 0 σ hk1 h2 (isB.r (Or.inl rfl)) ok hF
abbrev rm_X10_loadParts : Room := { frames := 0, cells := 0, slots := 0, locals := 0 }
def F_X10_loadParts_J75 (N : Nat) (nx18 : (Int × Sto) → Option (Sto)) (v1 : Int) (v2 : Int) (v3 : Int) (v4 : UInt32) (σ : Sto) : Option (Sto) :=
  inb (ja v2 v3) 64 (nx18 ((ja v3 1), (upF σ 49 (ja v2 v3) (v4.toNat : Int))))
def F_X10_loadParts_B32 (N : Nat) (nx18 : (Int × Sto) → Option (Sto)) (nx32 : (UInt32 × Int) → Option (Sto)) (v1 : Int) (v2 : Int) (v3 : Int) (v4 : UInt32) (v5 : Int) (σ : Sto) : Option (Sto) :=
  if v3 ≤ v5 then (F_X10_loadParts_J75 N nx18 v1 v2 v3 v4 σ) else (inb (ja v2 v5) 64 (inb (ja (jm v5 8) v3) 64 (grd (vf_n32 (FP.fdiv (ji2f (σ.1 47 (ja (jm v5 8) v3))) 1120403456)) (dn32 _) (grd (vf_n32 (FP.fmul (fb (σ.2 49 (ja v2 v5))) (FP.fdiv (ji2f (σ.1 47 (ja (jm v5 8) v3))) 1120403456))) (dn32 _) (grd (vf_n32 (FP.fadd v4 (FP.fmul (fb (σ.2 49 (ja v2 v5))) (FP.fdiv (ji2f (σ.1 47 (ja (jm v5 8) v3))) 1120403456)))) (dn32 _) (nx32 ((FP.fadd v4 (FP.fmul (fb (σ.2 49 (ja v2 v5))) (FP.fdiv (ji2f (σ.1 47 (ja (jm v5 8) v3))) 1120403456))), (ja v5 1))))))))
def F_X10_loadParts_B18 (N : Nat) (nx18 : (Int × Sto) → Option (Sto)) (v1 : Int) (v2 : Int) (v3 : Int) (σ : Sto) : Option (Sto) :=
  if (σ.1 46 5) ≤ v3 then (some σ) else (loopK (fun q nx32 => F_X10_loadParts_B32 N nx18 nx32 v1 v2 v3 q.1 q.2 σ) N (FP.fconst0, v1))
def F_X10_loadParts (N : Nat) (v1 : Int) (σ : Sto) : Option (Sto) :=
  inb (ja (jm v1 8) v1) 64 (loopK (fun q nx18 => F_X10_loadParts_B18 N  nx18 v1 (jm v1 8) q.1 q.2) N ((ja v1 1), (upF σ 49 (ja (jm v1 8) v1) (FP.fconst1.toNat : Int))))
set_option maxHeartbeats 4000000 in
set_option maxRecDepth 100000 in
theorem c_X10_loadParts (l : Launch) (g : Geo) (N : Nat) (v1 : Int) (σ : Sto) (res : Sto) (h1 : inR v1) (ok : OK σ) (hF : F_X10_loadParts N v1 σ = some res) : MtV l g yX10_loadParts cX10_loadParts 6 none rm_X10_loadParts [vr g 46, vi v1] σ res := by
  intro sz
  refine Met.ofAt (own := RX10) (QQ := fun z => QV g z res) (by decide +kernel) (Nat.le_of_ble_eq_true rfl) rfl ?_
  intro p e s m args below meth c C hr hlk
  show At p l e rm_X10_loadParts s m args below meth c 0 0 g 6 (MQ below (QV g s.heap.size res) args s 0 0 (AA g s.heap.size)) 0 [(0, vr g 46), (1, vi v1)] [] σ
  unfold F_X10_loadParts at hF
  refine at_iload_n (pc := 0) C 1 dX10_loadParts_0 rfl rfl ?_
  refine at_bipush (pc := 1) C dX10_loadParts_1 (by decide) ?_
  refine at_imul (pc := 3) C dX10_loadParts_3 ?_
  refine at_istore_n (pc := 4) (lv' := [(2, vi (jm v1 8)), (0, vr g 46), (1, vi v1)]) C dX10_loadParts_4 rfl (Nat.le_of_ble_eq_true rfl) rfl ?_
  refine at_aload_n (pc := 5) C 1 dX10_loadParts_5 rfl rfl ?_
  refine at_getr (pc := 6) (k' := 49) C 3 fw_10_18 kd46 rfl (Nat.le_of_ble_eq_true rfl) rfl rfl dX10_loadParts_6 ?_
  refine at_iload_n (pc := 9) C 0 dX10_loadParts_9 rfl rfl ?_
  refine at_iload_n (pc := 10) C 2 dX10_loadParts_10 rfl rfl ?_
  refine at_iadd (pc := 11) C dX10_loadParts_11 ?_
  refine at_fconst1 (pc := 12) C dX10_loadParts_12 ?_
  obtain ⟨b1, hF⟩ := inb_some hF
  refine at_fastore (pc := 13) C kd49 b1 dX10_loadParts_13 ?_
  refine at_iload_n (pc := 14) C 2 dX10_loadParts_14 rfl rfl ?_
  refine at_iconst (pc := 15) C dX10_loadParts_15 ?_
  refine at_iadd (pc := 16) C dX10_loadParts_16 ?_
  refine at_istore_n (pc := 17) (lv' := [(3, vi (ja v1 1)), (2, vi (jm v1 8)), (0, vr g 46), (1, vi v1)]) C dX10_loadParts_17 rfl (Nat.le_of_ble_eq_true rfl) rfl ?_
  have L18 : ∀ (v1 : Int) (v2 : Int) (v3 : Int) (σ : Sto), inR v1 → inR v2 → inR v3 → OK σ → loopK (fun q nx18 => F_X10_loadParts_B18 N  nx18 v1 v2 q.1 q.2) N (v3, σ) = some res → At p l e rm_X10_loadParts s m args below meth c 0 0 g 6 (MQ below (QV g s.heap.size res) args s 0 0 (AA g s.heap.size)) 18 [(0, vr g 46), (1, vi v1), (2, vi v2), (3, vi v3)] [] σ := by
    intro v1 v2 v3 σ h1 h2 h3 ok hF
    refine loopK_ind (res := res) (P := fun (q : Int × Sto) => inR q.1 → OK q.2 → At p l e rm_X10_loadParts s m args below meth c 0 0 g 6 (MQ below (QV g s.heap.size res) args s 0 0 (AA g s.heap.size)) 18 [(0, vr g 46), (1, vi v1), (2, vi v2), (3, vi q.1)] [] q.2) ?_ N _ hF h3 ok
    intro nx18 q ih18 hF
    obtain ⟨v3, σ⟩ := q
    intro h3 ok
    have hF : F_X10_loadParts_B18 N  nx18 v1 v2 v3 σ = some res := hF
    unfold F_X10_loadParts_B18 at hF
    refine at_iload_n (pc := 18) C 3 dX10_loadParts_18 rfl rfl ?_
    refine at_aload_n (pc := 19) C 0 dX10_loadParts_19 rfl rfl ?_
    refine at_geti (pc := 20) (jz := 5) C fw_10_28 kd46 rfl (Nat.le_of_ble_eq_true rfl) rfl rfl dX10_loadParts_20 ?_
    refine at_icmp_ge (pc := 23) (tgt := 91) C h3 (ok 46 5) dX10_loadParts_23 rfl (fun c2 => ?_) (fun c2 => ?_)
    · have hF := (if_pos c2).symm.trans hF
      obtain rfl := Option.some.inj hF
      exact at_vret (pc := 91) C hr hlk ok dX10_loadParts_91
    · have hF := (if_neg c2).symm.trans hF
      refine at_fconst0 (pc := 26) C dX10_loadParts_26 ?_
      refine at_fstore (pc := 27) (lv' := [(4, .float FP.fconst0), (0, vr g 46), (1, vi v1), (2, vi v2), (3, vi v3)]) C dX10_loadParts_27 (Nat.le_of_ble_eq_true rfl) rfl ?_
      refine at_iload_n (pc := 29) C 2 dX10_loadParts_29 rfl rfl ?_
      refine at_istore (pc := 30) (lv' := [(5, vi v1), (4, .float FP.fconst0), (0, vr g 46), (1, vi v1), (2, vi v2), (3, vi v3)]) C dX10_loadParts_30 (Nat.le_of_ble_eq_true rfl) rfl ?_
      have L32 : ∀ (v3 : Int) (v4 : UInt32) (v5 : Int) (σ : Sto), inR v3 → inR v5 → OK σ → loopK (fun q nx32 => F_X10_loadParts_B32 N nx18 nx32 v1 v2 v3 q.1 q.2 σ) N (v4, v5) = some res → At p l e rm_X10_loadParts s m args below meth c 0 0 g 6 (MQ below (QV g s.heap.size res) args s 0 0 (AA g s.heap.size)) 32 [(0, vr g 46), (1, vi v1), (2, vi v2), (3, vi v3), (4, .float v4), (5, vi v5)] [] σ := by
        intro v3 v4 v5 σ h3 h5 ok hF
        refine loopK_ind (res := res) (P := fun (q : UInt32 × Int) => inR q.2 → At p l e rm_X10_loadParts s m args below meth c 0 0 g 6 (MQ below (QV g s.heap.size res) args s 0 0 (AA g s.heap.size)) 32 [(0, vr g 46), (1, vi v1), (2, vi v2), (3, vi v3), (4, .float q.1), (5, vi q.2)] [] σ) ?_ N _ hF h5
        intro nx32 q ih32 hF
        obtain ⟨v4, v5⟩ := q
        intro h5
        have hF : F_X10_loadParts_B32 N nx18 nx32 v1 v2 v3 v4 v5 σ = some res := hF
        unfold F_X10_loadParts_B32 at hF
        have J75 : ∀ (v3 : Int) (v4 : UInt32) (σ : Sto), inR v3 → OK σ → F_X10_loadParts_J75 N nx18 v1 v2 v3 v4 σ = some res → At p l e rm_X10_loadParts s m args below meth c 0 0 g 6 (MQ below (QV g s.heap.size res) args s 0 0 (AA g s.heap.size)) 75 [(0, vr g 46), (1, vi v1), (2, vi v2), (3, vi v3), (4, .float v4)] [] σ := by
          intro v3 v4 σ h3 ok hF
          unfold F_X10_loadParts_J75 at hF
          refine at_aload_n (pc := 75) C 0 dX10_loadParts_75 rfl rfl ?_
          refine at_getr (pc := 76) (k' := 49) C 3 fw_10_18 kd46 rfl (Nat.le_of_ble_eq_true rfl) rfl rfl dX10_loadParts_76 ?_
          refine at_iload_n (pc := 79) C 2 dX10_loadParts_79 rfl rfl ?_
          refine at_iload_n (pc := 80) C 3 dX10_loadParts_80 rfl rfl ?_
          refine at_iadd (pc := 81) C dX10_loadParts_81 ?_
          refine at_fload (pc := 82) C 4 dX10_loadParts_82 rfl ?_
          obtain ⟨b3, hF⟩ := inb_some hF
          refine at_fastore (pc := 84) C kd49 b3 dX10_loadParts_84 ?_
          refine at_iinc (pc := 85) (lv' := [(3, vi (ja v3 1)), (0, vr g 46), (1, vi v1), (2, vi v2), (4, .float v4)]) C 3 dX10_loadParts_85 rfl (Nat.le_of_ble_eq_true rfl) rfl ?_
          refine at_goto (pc := 88) (tgt := 18) C dX10_loadParts_88 rfl ?_
          refine at_sub (lv' := [(0, vr g 46), (1, vi v1), (2, vi v2), (3, vi (ja v3 1))]) [1, 2, 3, 0] rfl ?_
          exact ih18 _ hF (ja_R v3 1) (OK_uf (k := 49) (j := (ja v2 v3)) (v := (v4.toNat : Int)) ok)
        refine at_iload (pc := 32) C 5 dX10_loadParts_32 rfl ?_
        refine at_iload_n (pc := 34) C 3 dX10_loadParts_34 rfl rfl ?_
        refine at_icmp_ge (pc := 35) (tgt := 75) C h5 h3 dX10_loadParts_35 rfl (fun c4 => ?_) (fun c4 => ?_)
        · have hF := (if_pos c4).symm.trans hF
          refine at_sub (lv' := [(0, vr g 46), (1, vi v1), (2, vi v2), (3, vi v3), (4, .float v4)]) [0, 1, 2, 3, 4] rfl ?_
          exact J75 v3 v4 σ h3 ok hF
        · have hF := (if_neg c4).symm.trans hF
          refine at_fload (pc := 38) C 4 dX10_loadParts_38 rfl ?_
          refine at_aload_n (pc := 40) C 0 dX10_loadParts_40 rfl rfl ?_
          refine at_getr (pc := 41) (k' := 49) C 3 fw_10_18 kd46 rfl (Nat.le_of_ble_eq_true rfl) rfl rfl dX10_loadParts_41 ?_
          refine at_iload_n (pc := 44) C 2 dX10_loadParts_44 rfl rfl ?_
          refine at_iload (pc := 45) C 5 dX10_loadParts_45 rfl ?_
          refine at_iadd (pc := 47) C dX10_loadParts_47 ?_
          obtain ⟨b5, hF⟩ := inb_some hF
          refine at_faload (pc := 48) C kd49 b5 dX10_loadParts_48 ?_
          refine at_aload_n (pc := 49) C 0 dX10_loadParts_49 rfl rfl ?_
          refine at_getr (pc := 50) (k' := 47) C 1 fw_10_9 kd46 rfl (Nat.le_of_ble_eq_true rfl) rfl rfl dX10_loadParts_50 ?_
          refine at_iload (pc := 53) C 5 dX10_loadParts_53 rfl ?_
          refine at_bipush (pc := 55) C dX10_loadParts_55 (by decide) ?_
          refine at_imul (pc := 57) C dX10_loadParts_57 ?_
          refine at_iload_n (pc := 58) C 3 dX10_loadParts_58 rfl rfl ?_
          refine at_iadd (pc := 59) C dX10_loadParts_59 ?_
          obtain ⟨b6, hF⟩ := inb_some hF
          refine at_iaload (pc := 60) C kd47 b6 dX10_loadParts_60 ?_
          refine at_i2f (pc := 61) C dX10_loadParts_61 ?_
          refine at_ldcf (pc := 62) C dX10_loadParts_62 w743 ?_
          obtain ⟨n7, hF⟩ := grd_some hF
          refine at_fdiv (pc := 64) C dX10_loadParts_64 n7 ?_
          obtain ⟨n8, hF⟩ := grd_some hF
          refine at_fmul (pc := 65) C dX10_loadParts_65 n8 ?_
          obtain ⟨n9, hF⟩ := grd_some hF
          refine at_fadd (pc := 66) C dX10_loadParts_66 n9 ?_
          refine at_fstore (pc := 67) (lv' := [(4, .float (FP.fadd v4 (FP.fmul (fb (σ.2 49 (ja v2 v5))) (FP.fdiv (ji2f (σ.1 47 (ja (jm v5 8) v3))) 1120403456)))), (0, vr g 46), (1, vi v1), (2, vi v2), (3, vi v3), (5, vi v5)]) C dX10_loadParts_67 (Nat.le_of_ble_eq_true rfl) rfl ?_
          refine at_iinc (pc := 69) (lv' := [(5, vi (ja v5 1)), (4, .float (FP.fadd v4 (FP.fmul (fb (σ.2 49 (ja v2 v5))) (FP.fdiv (ji2f (σ.1 47 (ja (jm v5 8) v3))) 1120403456)))), (0, vr g 46), (1, vi v1), (2, vi v2), (3, vi v3)]) C 5 dX10_loadParts_69 rfl (Nat.le_of_ble_eq_true rfl) rfl ?_
          refine at_goto (pc := 72) (tgt := 32) C dX10_loadParts_72 rfl ?_
          refine at_sub (lv' := [(0, vr g 46), (1, vi v1), (2, vi v2), (3, vi v3), (4, .float (FP.fadd v4 (FP.fmul (fb (σ.2 49 (ja v2 v5))) (FP.fdiv (ji2f (σ.1 47 (ja (jm v5 8) v3))) 1120403456)))), (5, vi (ja v5 1))]) [2, 3, 4, 5, 1, 0] rfl ?_
          exact ih32 _ hF (ja_R v5 1)
      refine at_sub (lv' := [(0, vr g 46), (1, vi v1), (2, vi v2), (3, vi v3), (4, .float FP.fconst0), (5, vi v1)]) [2, 3, 4, 5, 1, 0] rfl ?_
      exact L32 v3 FP.fconst0 v1 σ h3 h1 ok hF
  refine at_sub (lv' := [(0, vr g 46), (1, vi v1), (2, vi (jm v1 8)), (3, vi (ja v1 1))]) [2, 3, 1, 0] rfl ?_
  exact L18 v1 (jm v1 8) (ja v1 1) (upF σ 49 (ja (jm v1 8) v1) (FP.fconst1.toNat : Int)) h1 (jm_R v1 8) (ja_R v1 1) (OK_uf (k := 49) (j := (ja (jm v1 8) v1)) (v := (FP.fconst1.toNat : Int)) ok) hF
abbrev rm_X10_load : Room := { frames := 1, cells := 0, slots := 0, locals := 25 }
def F_X10_load_B19 (N : Nat) (nx19 : (Int × Sto) → Option (Sto))  (v3 : Int) (σ : Sto) : Option (Sto) :=
  if (σ.1 46 5) ≤ v3 then (some σ) else ((F_X10_loadParts N v3 σ).bind (fun q3 => nx19 ((ja v3 1), q3)))
def F_X10_load (N : Nat) (v1 : Nat) (v2 : Int) (σ : Sto) : Option (Sto) :=
  (F_X10_loadPercents N (v1 + 8) v2 (upI σ 46 5 (σ.1 v1 8))).bind (fun q1 => loopK (fun q nx19 => F_X10_load_B19 N  nx19  q.1 q.2) N (0, q1))
set_option maxHeartbeats 4000000 in
set_option maxRecDepth 100000 in
theorem c_X10_load (l : Launch) (g : Geo) (N : Nat) (v1 : Nat) (v2 : Int) (σ : Sto) (res : Sto) (hk1 : knd v1 = (10, 14)) (h2 : inR v2) (ok : OK σ) (hF : F_X10_load N v1 v2 σ = some res) : MtV l g yX10_load cX10_load 4 none rm_X10_load [vr g 46, vr g v1, vi v2] σ res := by
  intro sz
  refine Met.ofAt (own := RX10) (QQ := fun z => QV g z res) (by decide +kernel) (Nat.le_of_ble_eq_true rfl) rfl ?_
  intro p e s m args below meth c C hr hlk
  show At p l e rm_X10_load s m args below meth c 0 0 g 4 (MQ below (QV g s.heap.size res) args s 0 0 (AA g s.heap.size)) 0 [(0, vr g 46), (1, vr g v1), (2, vi v2)] [] σ
  unfold F_X10_load at hF
  refine at_aload_n (pc := 0) C 0 dX10_load_0 rfl rfl ?_
  refine at_aload_n (pc := 1) C 1 dX10_load_1 rfl rfl ?_
  refine at_geti (pc := 2) (jz := 8) C fw_10_32 hk1 rfl (Nat.le_of_ble_eq_true rfl) rfl rfl dX10_load_2 ?_
  refine at_puti (pc := 5) (jz := 5) C fu_10_28 kd46 rfl (Nat.le_of_ble_eq_true rfl) rfl rfl dX10_load_5 ?_
  refine at_aload_n (pc := 8) C 0 dX10_load_8 rfl rfl ?_
  refine at_aload_n (pc := 9) C 1 dX10_load_9 rfl rfl ?_
  refine at_getr (pc := 10) C 8 fw_10_35 hk1 rfl (Nat.le_of_ble_eq_true rfl) rfl rfl dX10_load_10 ?_
  refine at_iload_n (pc := 13) C 2 dX10_load_13 rfl rfl ?_
  obtain ⟨q1, eq1, hF⟩ := bind_some' hF
  refine at_callVv (pc := 14) (ci := 10) C (c_X10_loadPercents l g N (v1 + 8) v2 (upI σ 46 5 (σ.1 v1 8)) q1 (kf0_7 hk1) h2 (OK_up (k := 46) (j := 5) ok (ok v1 8)) eq1) kv_X10_loadPercents w735 kd46 rfl rfl rfl rfl (Nat.le_of_ble_eq_true rfl) ⟨rfl, rfl, (Nat.le_of_ble_eq_true rfl), (Nat.le_of_ble_eq_true rfl)⟩ dX10_load_14 (fun okq1 => ?_)
  refine at_iconst (pc := 17) C dX10_load_17 ?_
  refine at_istore_n (pc := 18) (lv' := [(3, vi 0), (0, vr g 46), (1, vr g v1), (2, vi v2)]) C dX10_load_18 rfl (Nat.le_of_ble_eq_true rfl) rfl ?_
  have L19 : ∀ (v3 : Int) (σ : Sto), inR v3 → OK σ → loopK (fun q nx19 => F_X10_load_B19 N  nx19  q.1 q.2) N (v3, σ) = some res → At p l e rm_X10_load s m args below meth c 0 0 g 4 (MQ below (QV g s.heap.size res) args s 0 0 (AA g s.heap.size)) 19 [(0, vr g 46), (3, vi v3)] [] σ := by
    intro v3 σ h3 ok hF
    refine loopK_ind (res := res) (P := fun (q : Int × Sto) => inR q.1 → OK q.2 → At p l e rm_X10_load s m args below meth c 0 0 g 4 (MQ below (QV g s.heap.size res) args s 0 0 (AA g s.heap.size)) 19 [(0, vr g 46), (3, vi q.1)] [] q.2) ?_ N _ hF h3 ok
    intro nx19 q ih19 hF
    obtain ⟨v3, σ⟩ := q
    intro h3 ok
    have hF : F_X10_load_B19 N  nx19  v3 σ = some res := hF
    unfold F_X10_load_B19 at hF
    refine at_iload_n (pc := 19) C 1 dX10_load_19 rfl rfl ?_
    refine at_aload_n (pc := 20) C 0 dX10_load_20 rfl rfl ?_
    refine at_geti (pc := 21) (jz := 5) C fw_10_28 kd46 rfl (Nat.le_of_ble_eq_true rfl) rfl rfl dX10_load_21 ?_
    refine at_icmp_ge (pc := 24) (tgt := 38) C h3 (ok 46 5) dX10_load_24 rfl (fun c2 => ?_) (fun c2 => ?_)
    · have hF := (if_pos c2).symm.trans hF
      obtain rfl := Option.some.inj hF
      exact at_vret (pc := 38) C hr hlk ok dX10_load_38
    · have hF := (if_neg c2).symm.trans hF
      refine at_aload_n (pc := 27) C 0 dX10_load_27 rfl rfl ?_
      refine at_iload_n (pc := 28) C 1 dX10_load_28 rfl rfl ?_
      obtain ⟨q3, eq3, hF⟩ := bind_some' hF
      refine at_callVv (pc := 29) (ci := 10) C (c_X10_loadParts l g N v3 σ q3 h3 ok eq3) kv_X10_loadParts w739 kd46 rfl rfl rfl rfl (Nat.le_of_ble_eq_true rfl) ⟨rfl, rfl, (Nat.le_of_ble_eq_true rfl), (Nat.le_of_ble_eq_true rfl)⟩ dX10_load_29 (fun okq3 => ?_)
      refine at_iinc (pc := 32) (lv' := [(3, vi (ja v3 1)), (0, vr g 46)]) C 1 dX10_load_32 rfl (Nat.le_of_ble_eq_true rfl) rfl ?_
      refine at_goto (pc := 35) (tgt := 19) C dX10_load_35 rfl ?_
      refine at_sub (lv' := [(0, vr g 46), (3, vi (ja v3 1))]) [1, 0] rfl ?_
      exact ih19 _ hF (ja_R v3 1) okq3
  refine at_sub (lv' := [(0, vr g 46), (3, vi 0)]) [1, 0] rfl ?_
  exact L19 0 q1 (isB.r (Or.inl rfl)) okq1 hF
abbrev rm_X10_judge : Room := { frames := 0, cells := 0, slots := 0, locals := 0 }
def F_X10_judge_J67 (N : Nat) (nx2 : (Int × Sto) → Option (Sto)) (v1 : Int) (v2 : Int) (σ : Sto) : Option (Sto) :=
  nx2 ((ja v2 1), σ)
def F_X10_judge_J61 (N : Nat) (nx2 : (Int × Sto) → Option (Sto)) (nx21 : (Int × Sto) → Option (Sto)) (v1 : Int) (v2 : Int) (v3 : Int) (σ : Sto) : Option (Sto) :=
  nx21 ((ja v3 1), σ)
def F_X10_judge_B21 (N : Nat) (nx2 : (Int × Sto) → Option (Sto)) (nx21 : (Int × Sto) → Option (Sto)) (v1 : Int) (v2 : Int) (v3 : Int) (σ : Sto) : Option (Sto) :=
  if (σ.1 46 5) ≤ v3 then (F_X10_judge_J67 N nx2 v1 v2 σ) else (inb (ja (jm v2 8) v3) 64 (grd (vf_n32 (FP.fmul (fb (σ.2 49 (ja (jm v2 8) v3))) 1120403456)) (dn32 _) (if (jfcmp (FP.fmul (fb (σ.2 49 (ja (jm v2 8) v3))) 1120403456) (ji2f v1) .l) < 0 then (F_X10_judge_J61 N nx2 nx21 v1 v2 v3 σ) else (inb v2 8 (F_X10_judge_J61 N nx2 nx21 v1 v2 v3 (upI σ 50 v2 (jor (σ.1 50 v2) (jshl 1 v3))))))))
def F_X10_judge_B2 (N : Nat) (nx2 : (Int × Sto) → Option (Sto)) (v1 : Int) (v2 : Int) (σ : Sto) : Option (Sto) :=
  if (σ.1 46 5) ≤ v2 then (some σ) else (inb v2 8 (loopK (fun q nx21 => F_X10_judge_B21 N nx2 nx21 v1 v2 q.1 q.2) N ((ja v2 1), (upI σ 50 v2 0))))
def F_X10_judge (N : Nat) (v1 : Int) (σ : Sto) : Option (Sto) :=
  loopK (fun q nx2 => F_X10_judge_B2 N  nx2 v1 q.1 q.2) N (0, σ)
set_option maxHeartbeats 4000000 in
set_option maxRecDepth 100000 in
theorem c_X10_judge (l : Launch) (g : Geo) (N : Nat) (v1 : Int) (σ : Sto) (res : Sto) (h1 : inR v1) (ok : OK σ) (hF : F_X10_judge N v1 σ = some res) : MtV l g yX10_judge cX10_judge 4 none rm_X10_judge [vr g 46, vi v1] σ res := by
  intro sz
  refine Met.ofAt (own := RX10) (QQ := fun z => QV g z res) (by decide +kernel) (Nat.le_of_ble_eq_true rfl) rfl ?_
  intro p e s m args below meth c C hr hlk
  show At p l e rm_X10_judge s m args below meth c 0 0 g 4 (MQ below (QV g s.heap.size res) args s 0 0 (AA g s.heap.size)) 0 [(0, vr g 46), (1, vi v1)] [] σ
  unfold F_X10_judge at hF
  refine at_iconst (pc := 0) C dX10_judge_0 ?_
  refine at_istore_n (pc := 1) (lv' := [(2, vi 0), (0, vr g 46), (1, vi v1)]) C dX10_judge_1 rfl (Nat.le_of_ble_eq_true rfl) rfl ?_
  have L2 : ∀ (v1 : Int) (v2 : Int) (σ : Sto), inR v1 → inR v2 → OK σ → loopK (fun q nx2 => F_X10_judge_B2 N  nx2 v1 q.1 q.2) N (v2, σ) = some res → At p l e rm_X10_judge s m args below meth c 0 0 g 4 (MQ below (QV g s.heap.size res) args s 0 0 (AA g s.heap.size)) 2 [(0, vr g 46), (1, vi v1), (2, vi v2)] [] σ := by
    intro v1 v2 σ h1 h2 ok hF
    refine loopK_ind (res := res) (P := fun (q : Int × Sto) => inR q.1 → OK q.2 → At p l e rm_X10_judge s m args below meth c 0 0 g 4 (MQ below (QV g s.heap.size res) args s 0 0 (AA g s.heap.size)) 2 [(0, vr g 46), (1, vi v1), (2, vi q.1)] [] q.2) ?_ N _ hF h2 ok
    intro nx2 q ih2 hF
    obtain ⟨v2, σ⟩ := q
    intro h2 ok
    have hF : F_X10_judge_B2 N  nx2 v1 v2 σ = some res := hF
    unfold F_X10_judge_B2 at hF
    refine at_iload_n (pc := 2) C 2 dX10_judge_2 rfl rfl ?_
    refine at_aload_n (pc := 3) C 0 dX10_judge_3 rfl rfl ?_
    refine at_geti (pc := 4) (jz := 5) C fw_10_28 kd46 rfl (Nat.le_of_ble_eq_true rfl) rfl rfl dX10_judge_4 ?_
    refine at_icmp_ge (pc := 7) (tgt := 73) C h2 (ok 46 5) dX10_judge_7 rfl (fun c1 => ?_) (fun c1 => ?_)
    · have hF := (if_pos c1).symm.trans hF
      obtain rfl := Option.some.inj hF
      exact at_vret (pc := 73) C hr hlk ok dX10_judge_73
    · have hF := (if_neg c1).symm.trans hF
      refine at_aload_n (pc := 10) C 0 dX10_judge_10 rfl rfl ?_
      refine at_getr (pc := 11) (k' := 50) C 4 fw_10_22 kd46 rfl (Nat.le_of_ble_eq_true rfl) rfl rfl dX10_judge_11 ?_
      refine at_iload_n (pc := 14) C 2 dX10_judge_14 rfl rfl ?_
      refine at_iconst (pc := 15) C dX10_judge_15 ?_
      obtain ⟨b2, hF⟩ := inb_some hF
      refine at_iastore (pc := 16) C kd50 b2 dX10_judge_16 ?_
      refine at_iload_n (pc := 17) C 2 dX10_judge_17 rfl rfl ?_
      refine at_iconst (pc := 18) C dX10_judge_18 ?_
      refine at_iadd (pc := 19) C dX10_judge_19 ?_
      refine at_istore_n (pc := 20) (lv' := [(3, vi (ja v2 1)), (0, vr g 46), (1, vi v1), (2, vi v2)]) C dX10_judge_20 rfl (Nat.le_of_ble_eq_true rfl) rfl ?_
      have L21 : ∀ (v2 : Int) (v3 : Int) (σ : Sto), inR v2 → inR v3 → OK σ → loopK (fun q nx21 => F_X10_judge_B21 N nx2 nx21 v1 v2 q.1 q.2) N (v3, σ) = some res → At p l e rm_X10_judge s m args below meth c 0 0 g 4 (MQ below (QV g s.heap.size res) args s 0 0 (AA g s.heap.size)) 21 [(0, vr g 46), (1, vi v1), (2, vi v2), (3, vi v3)] [] σ := by
        intro v2 v3 σ h2 h3 ok hF
        refine loopK_ind (res := res) (P := fun (q : Int × Sto) => inR q.1 → OK q.2 → At p l e rm_X10_judge s m args below meth c 0 0 g 4 (MQ below (QV g s.heap.size res) args s 0 0 (AA g s.heap.size)) 21 [(0, vr g 46), (1, vi v1), (2, vi v2), (3, vi q.1)] [] q.2) ?_ N _ hF h3 ok
        intro nx21 q ih21 hF
        obtain ⟨v3, σ⟩ := q
        intro h3 ok
        have hF : F_X10_judge_B21 N nx2 nx21 v1 v2 v3 σ = some res := hF
        unfold F_X10_judge_B21 at hF
        have J67 : ∀ (v2 : Int) (σ : Sto), inR v2 → OK σ → F_X10_judge_J67 N nx2 v1 v2 σ = some res → At p l e rm_X10_judge s m args below meth c 0 0 g 4 (MQ below (QV g s.heap.size res) args s 0 0 (AA g s.heap.size)) 67 [(0, vr g 46), (1, vi v1), (2, vi v2)] [] σ := by
          intro v2 σ h2 ok hF
          unfold F_X10_judge_J67 at hF
          refine at_iinc (pc := 67) (lv' := [(2, vi (ja v2 1)), (0, vr g 46), (1, vi v1)]) C 2 dX10_judge_67 rfl (Nat.le_of_ble_eq_true rfl) rfl ?_
          refine at_goto (pc := 70) (tgt := 2) C dX10_judge_70 rfl ?_
          refine at_sub (lv' := [(0, vr g 46), (1, vi v1), (2, vi (ja v2 1))]) [1, 2, 0] rfl ?_
          exact ih2 _ hF (ja_R v2 1) ok
        refine at_iload_n (pc := 21) C 3 dX10_judge_21 rfl rfl ?_
        refine at_aload_n (pc := 22) C 0 dX10_judge_22 rfl rfl ?_
        refine at_geti (pc := 23) (jz := 5) C fw_10_28 kd46 rfl (Nat.le_of_ble_eq_true rfl) rfl rfl dX10_judge_23 ?_
        refine at_icmp_ge (pc := 26) (tgt := 67) C h3 (ok 46 5) dX10_judge_26 rfl (fun c3 => ?_) (fun c3 => ?_)
        · have hF := (if_pos c3).symm.trans hF
          refine at_sub (lv' := [(0, vr g 46), (1, vi v1), (2, vi v2)]) [0, 1, 2] rfl ?_
          exact J67 v2 σ h2 ok hF
        · have hF := (if_neg c3).symm.trans hF
          have J61 : ∀ (v3 : Int) (σ : Sto), inR v3 → OK σ → F_X10_judge_J61 N nx2 nx21 v1 v2 v3 σ = some res → At p l e rm_X10_judge s m args below meth c 0 0 g 4 (MQ below (QV g s.heap.size res) args s 0 0 (AA g s.heap.size)) 61 [(0, vr g 46), (1, vi v1), (2, vi v2), (3, vi v3)] [] σ := by
            intro v3 σ h3 ok hF
            unfold F_X10_judge_J61 at hF
            refine at_iinc (pc := 61) (lv' := [(3, vi (ja v3 1)), (0, vr g 46), (1, vi v1), (2, vi v2)]) C 3 dX10_judge_61 rfl (Nat.le_of_ble_eq_true rfl) rfl ?_
            refine at_goto (pc := 64) (tgt := 21) C dX10_judge_64 rfl ?_
            refine at_sub (lv' := [(0, vr g 46), (1, vi v1), (2, vi v2), (3, vi (ja v3 1))]) [1, 2, 3, 0] rfl ?_
            exact ih21 _ hF (ja_R v3 1) ok
          refine at_aload_n (pc := 29) C 0 dX10_judge_29 rfl rfl ?_
          refine at_getr (pc := 30) (k' := 49) C 3 fw_10_18 kd46 rfl (Nat.le_of_ble_eq_true rfl) rfl rfl dX10_judge_30 ?_
          refine at_iload_n (pc := 33) C 2 dX10_judge_33 rfl rfl ?_
          refine at_bipush (pc := 34) C dX10_judge_34 (by decide) ?_
          refine at_imul (pc := 36) C dX10_judge_36 ?_
          refine at_iload_n (pc := 37) C 3 dX10_judge_37 rfl rfl ?_
          refine at_iadd (pc := 38) C dX10_judge_38 ?_
          obtain ⟨b4, hF⟩ := inb_some hF
          refine at_faload (pc := 39) C kd49 b4 dX10_judge_39 ?_
          refine at_ldcf (pc := 40) C dX10_judge_40 w743 ?_
          obtain ⟨n5, hF⟩ := grd_some hF
          refine at_fmul (pc := 42) C dX10_judge_42 n5 ?_
          refine at_iload_n (pc := 43) C 1 dX10_judge_43 rfl rfl ?_
          refine at_i2f (pc := 44) C dX10_judge_44 ?_
          refine at_fcmp (pc := 45) C dX10_judge_45 ?_
          refine at_if_lt (pc := 46) (tgt := 61) C (jfcmp_R (FP.fmul (fb (σ.2 49 (ja (jm v2 8) v3))) 1120403456) (ji2f v1) .l) dX10_judge_46 rfl (fun c6 => ?_) (fun c6 => ?_)
          · have hF := (if_pos c6).symm.trans hF
            exact J61 v3 σ h3 ok hF
          · have hF := (if_neg c6).symm.trans hF
            refine at_aload_n (pc := 49) C 0 dX10_judge_49 rfl rfl ?_
            refine at_getr (pc := 50) (k' := 50) C 4 fw_10_22 kd46 rfl (Nat.le_of_ble_eq_true rfl) rfl rfl dX10_judge_50 ?_
            refine at_iload_n (pc := 53) C 2 dX10_judge_53 rfl rfl ?_
            refine at_dup2 (pc := 54) C dX10_judge_54 rfl rfl ?_
            obtain ⟨b7, hF⟩ := inb_some hF
            refine at_iaload (pc := 55) C kd50 b7 dX10_judge_55 ?_
            refine at_iconst (pc := 56) C dX10_judge_56 ?_
            refine at_iload_n (pc := 57) C 3 dX10_judge_57 rfl rfl ?_
            refine at_ishl (pc := 58) C dX10_judge_58 ?_
            refine at_ior (pc := 59) C dX10_judge_59 ?_
            refine at_iastore (pc := 60) C kd50 b7 dX10_judge_60 ?_
            exact J61 v3 (upI σ 50 v2 (jor (σ.1 50 v2) (jshl 1 v3))) h3 (OK_up (k := 50) (j := v2) ok (jor_R (σ.1 50 v2) (jshl 1 v3))) hF
      refine at_sub (lv' := [(0, vr g 46), (1, vi v1), (2, vi v2), (3, vi (ja v2 1))]) [1, 2, 3, 0] rfl ?_
      exact L21 v2 (ja v2 1) (upI σ 50 v2 0) h2 (ja_R v2 1) (OK_up (k := 50) (j := v2) ok (isB.r (Or.inl rfl))) hF
  refine at_sub (lv' := [(0, vr g 46), (1, vi v1), (2, vi 0)]) [1, 2, 0] rfl ?_
  exact L2 v1 0 σ h1 (isB.r (Or.inl rfl)) ok hF
abbrev rm_X10_relativesOf : Room := { frames := 0, cells := 0, slots := 0, locals := 0 }
def F_X10_relativesOf_J47 (N : Nat)  (v1 : Int) (v2 : Int) (σ : Sto) : Option (Int) :=
  some (jand v2 (jxor (jshl 1 v1) (-1)))
def F_X10_relativesOf_J41 (N : Nat) (nx9 : (Int × Int) → Option (Int)) (v1 : Int) (v2 : Int) (v3 : Int) (σ : Sto) : Option (Int) :=
  nx9 (v2, (ja v3 1))
def F_X10_relativesOf_B9 (N : Nat) (nx9 : (Int × Int) → Option (Int)) (v1 : Int) (v2 : Int) (v3 : Int) (σ : Sto) : Option (Int) :=
  if v1 ≤ v3 then (F_X10_relativesOf_J47 N  v1 v2 σ) else (inb v3 8 (if (jand (jshr (σ.1 50 v3) v1) 1) = 1 then (F_X10_relativesOf_J41 N nx9 v1 (jor v2 (jor (σ.1 50 v3) (jshl 1 v3))) v3 σ) else (F_X10_relativesOf_J41 N nx9 v1 v2 v3 σ)))
def F_X10_relativesOf (N : Nat) (v1 : Int) (σ : Sto) : Option (Int) :=
  inb v1 8 (loopK (fun q nx9 => F_X10_relativesOf_B9 N  nx9 v1 q.1 q.2 σ) N ((σ.1 50 v1), 0))
set_option maxHeartbeats 4000000 in
set_option maxRecDepth 100000 in
theorem c_X10_relativesOf (l : Launch) (g : Geo) (N : Nat) (v1 : Int) (σ : Sto) (res : Int) (h1 : inR v1) (ok : OK σ) (hF : F_X10_relativesOf N v1 σ = some res) : MtI l g yX10_relativesOf cX10_relativesOf 4 (some .int) rm_X10_relativesOf [vr g 46, vi v1] σ res σ inR := by
  intro sz
  refine Met.ofAt (own := RX10) (QQ := fun z => QI g z res σ inR) (by decide +kernel) (Nat.le_of_ble_eq_true rfl) rfl ?_
  intro p e s m args below meth c C hr hlk
  show At p l e rm_X10_relativesOf s m args below meth c 0 0 g 4 (MQ below (QI g s.heap.size res σ inR) args s 0 0 (AA g s.heap.size)) 0 [(0, vr g 46), (1, vi v1)] [] σ
  unfold F_X10_relativesOf at hF
  refine at_aload_n (pc := 0) C 0 dX10_relativesOf_0 rfl rfl ?_
  refine at_getr (pc := 1) (k' := 50) C 4 fw_10_22 kd46 rfl (Nat.le_of_ble_eq_true rfl) rfl rfl dX10_relativesOf_1 ?_
  refine at_iload_n (pc := 4) C 1 dX10_relativesOf_4 rfl rfl ?_
  obtain ⟨b1, hF⟩ := inb_some hF
  refine at_iaload (pc := 5) C kd50 b1 dX10_relativesOf_5 ?_
  refine at_istore_n (pc := 6) (lv' := [(2, vi (σ.1 50 v1)), (0, vr g 46), (1, vi v1)]) C dX10_relativesOf_6 rfl (Nat.le_of_ble_eq_true rfl) rfl ?_
  refine at_iconst (pc := 7) C dX10_relativesOf_7 ?_
  refine at_istore_n (pc := 8) (lv' := [(3, vi 0), (2, vi (σ.1 50 v1)), (0, vr g 46), (1, vi v1)]) C dX10_relativesOf_8 rfl (Nat.le_of_ble_eq_true rfl) rfl ?_
  have L9 : ∀ (v1 : Int) (v2 : Int) (v3 : Int), inR v1 → inR v2 → inR v3 → loopK (fun q nx9 => F_X10_relativesOf_B9 N  nx9 v1 q.1 q.2 σ) N (v2, v3) = some res → At p l e rm_X10_relativesOf s m args below meth c 0 0 g 4 (MQ below (QI g s.heap.size res σ inR) args s 0 0 (AA g s.heap.size)) 9 [(0, vr g 46), (1, vi v1), (2, vi v2), (3, vi v3)] [] σ := by
    intro v1 v2 v3 h1 h2 h3 hF
    refine loopK_ind (res := res) (P := fun (q : Int × Int) => inR q.1 → inR q.2 → At p l e rm_X10_relativesOf s m args below meth c 0 0 g 4 (MQ below (QI g s.heap.size res σ inR) args s 0 0 (AA g s.heap.size)) 9 [(0, vr g 46), (1, vi v1), (2, vi q.1), (3, vi q.2)] [] σ) ?_ N _ hF h2 h3
    intro nx9 q ih9 hF
    obtain ⟨v2, v3⟩ := q
    intro h2 h3
    have hF : F_X10_relativesOf_B9 N  nx9 v1 v2 v3 σ = some res := hF
    unfold F_X10_relativesOf_B9 at hF
    have J47 : ∀ (v1 : Int) (v2 : Int), inR v1 → inR v2 → F_X10_relativesOf_J47 N  v1 v2 σ = some res → At p l e rm_X10_relativesOf s m args below meth c 0 0 g 4 (MQ below (QI g s.heap.size res σ inR) args s 0 0 (AA g s.heap.size)) 47 [(1, vi v1), (2, vi v2)] [] σ := by
      intro v1 v2 h1 h2 hF
      unfold F_X10_relativesOf_J47 at hF
      refine at_iload_n (pc := 47) C 1 dX10_relativesOf_47 rfl rfl ?_
      refine at_iconst (pc := 48) C dX10_relativesOf_48 ?_
      refine at_iload_n (pc := 49) C 0 dX10_relativesOf_49 rfl rfl ?_
      refine at_ishl (pc := 50) C dX10_relativesOf_50 ?_
      refine at_iconst (pc := 51) C dX10_relativesOf_51 ?_
      refine at_ixor (pc := 52) C dX10_relativesOf_52 ?_
      refine at_iand (pc := 53) C dX10_relativesOf_53 ?_
      obtain rfl := Option.some.inj hF
      exact at_iret (pc := 54) C hr hlk (jand_R v2 (jxor (jshl 1 v1) (-1))) ok dX10_relativesOf_54
    refine at_iload_n (pc := 9) C 3 dX10_relativesOf_9 rfl rfl ?_
    refine at_iload_n (pc := 10) C 1 dX10_relativesOf_10 rfl rfl ?_
    refine at_icmp_ge (pc := 11) (tgt := 47) C h3 h1 dX10_relativesOf_11 rfl (fun c2 => ?_) (fun c2 => ?_)
    · have hF := (if_pos c2).symm.trans hF
      refine at_sub (lv' := [(1, vi v1), (2, vi v2)]) [1, 2] rfl ?_
      exact J47 v1 v2 h1 h2 hF
    · have hF := (if_neg c2).symm.trans hF
      have J41 : ∀ (v2 : Int) (v3 : Int), inR v2 → inR v3 → F_X10_relativesOf_J41 N nx9 v1 v2 v3 σ = some res → At p l e rm_X10_relativesOf s m args below meth c 0 0 g 4 (MQ below (QI g s.heap.size res σ inR) args s 0 0 (AA g s.heap.size)) 41 [(0, vr g 46), (1, vi v1), (2, vi v2), (3, vi v3)] [] σ := by
        intro v2 v3 h2 h3 hF
        unfold F_X10_relativesOf_J41 at hF
        refine at_iinc (pc := 41) (lv' := [(3, vi (ja v3 1)), (0, vr g 46), (1, vi v1), (2, vi v2)]) C 3 dX10_relativesOf_41 rfl (Nat.le_of_ble_eq_true rfl) rfl ?_
        refine at_goto (pc := 44) (tgt := 9) C dX10_relativesOf_44 rfl ?_
        refine at_sub (lv' := [(0, vr g 46), (1, vi v1), (2, vi v2), (3, vi (ja v3 1))]) [1, 2, 3, 0] rfl ?_
        exact ih9 _ hF h2 (ja_R v3 1)
      refine at_aload_n (pc := 14) C 0 dX10_relativesOf_14 rfl rfl ?_
      refine at_getr (pc := 15) (k' := 50) C 4 fw_10_22 kd46 rfl (Nat.le_of_ble_eq_true rfl) rfl rfl dX10_relativesOf_15 ?_
      refine at_iload_n (pc := 18) C 3 dX10_relativesOf_18 rfl rfl ?_
      obtain ⟨b3, hF⟩ := inb_some hF
      refine at_iaload (pc := 19) C kd50 b3 dX10_relativesOf_19 ?_
      refine at_iload_n (pc := 20) C 1 dX10_relativesOf_20 rfl rfl ?_
      refine at_ishr (pc := 21) C dX10_relativesOf_21 ?_
      refine at_iconst (pc := 22) C dX10_relativesOf_22 ?_
      refine at_iand (pc := 23) C dX10_relativesOf_23 ?_
      refine at_iconst (pc := 24) C dX10_relativesOf_24 ?_
      refine at_icmp_ne (pc := 25) (tgt := 41) C (jand_R (jshr (σ.1 50 v3) v1) 1) (isB.r (Or.inr rfl)) dX10_relativesOf_25 rfl (fun c4 => ?_) (fun c4 => ?_)
      · have hF := (if_neg c4).symm.trans hF
        exact J41 v2 v3 h2 h3 hF
      · have hF := (if_pos c4).symm.trans hF
        refine at_iload_n (pc := 28) C 2 dX10_relativesOf_28 rfl rfl ?_
        refine at_aload_n (pc := 29) C 0 dX10_relativesOf_29 rfl rfl ?_
        refine at_getr (pc := 30) (k' := 50) C 4 fw_10_22 kd46 rfl (Nat.le_of_ble_eq_true rfl) rfl rfl dX10_relativesOf_30 ?_
        refine at_iload_n (pc := 33) C 3 dX10_relativesOf_33 rfl rfl ?_
        refine at_iaload (pc := 34) C kd50 b3 dX10_relativesOf_34 ?_
        refine at_iconst (pc := 35) C dX10_relativesOf_35 ?_
        refine at_iload_n (pc := 36) C 3 dX10_relativesOf_36 rfl rfl ?_
        refine at_ishl (pc := 37) C dX10_relativesOf_37 ?_
        refine at_ior (pc := 38) C dX10_relativesOf_38 ?_
        refine at_ior (pc := 39) C dX10_relativesOf_39 ?_
        refine at_istore_n (pc := 40) (lv' := [(2, vi (jor v2 (jor (σ.1 50 v3) (jshl 1 v3)))), (0, vr g 46), (1, vi v1), (3, vi v3)]) C dX10_relativesOf_40 rfl (Nat.le_of_ble_eq_true rfl) rfl ?_
        refine at_sub (lv' := [(0, vr g 46), (1, vi v1), (2, vi (jor v2 (jor (σ.1 50 v3) (jshl 1 v3)))), (3, vi v3)]) [1, 2, 0, 3] rfl ?_
        exact J41 (jor v2 (jor (σ.1 50 v3) (jshl 1 v3))) v3 (jor_R v2 (jor (σ.1 50 v3) (jshl 1 v3))) h3 hF
  refine at_sub (lv' := [(0, vr g 46), (1, vi v1), (2, vi (σ.1 50 v1)), (3, vi 0)]) [2, 3, 1, 0] rfl ?_
  exact L9 v1 (σ.1 50 v1) 0 h1 (ok 50 v1) (isB.r (Or.inl rfl)) hF
abbrev rm_X4_fill : Room := { frames := 2, cells := 0, slots := 0, locals := 48 }
def F_X4_fill_J113 (N : Nat) (nx50 : (Int × Sto) → Option (Sto)) (v0 : Nat) (v1 : Nat) (v2 : Int) (v4 : Int) (σ : Sto) : Option (Sto) :=
  nx50 ((ja v4 1), σ)
def F_X4_fill_B79 (N : Nat) (nx50 : (Int × Sto) → Option (Sto)) (nx79 : (Int × Sto) → Option (Sto)) (v0 : Nat) (v1 : Nat) (v2 : Int) (v4 : Int) (v5 : Int) (σ : Sto) : Option (Sto) :=
  if (σ.1 v1 8) ≤ v5 then (F_X4_fill_J113 N nx50 v0 v1 v2 v4 σ) else ((F_X10_relativesOf N v5 σ).bind (fun q7 => inb (ja (jm v4 8) v5) 200 (nx79 ((ja v5 1), (upI σ (v0 + 2) (ja (jm v4 8) v5) q7)))))
def F_X4_fill_B50 (N : Nat) (nx50 : (Int × Sto) → Option (Sto)) (v0 : Nat) (v1 : Nat) (v2 : Int) (v4 : Int) (σ : Sto) : Option (Sto) :=
  if (σ.1 v0 2) ≤ v4 then (some σ) else (inb v4 25 ((F_X10_load N v1 (σ.1 (v0 + 1) v4) σ).bind (fun q4 => (F_X10_judge N v2 q4).bind (fun q5 => loopK (fun q nx79 => F_X4_fill_B79 N nx50 nx79 v0 v1 v2 v4 q.1 q.2) N (0, q5)))))
def F_X4_fill_J47 (N : Nat)  (v0 : Nat) (v1 : Nat) (v2 : Int) (σ : Sto) : Option (Sto) :=
  loopK (fun q nx50 => F_X4_fill_B50 N  nx50 v0 v1 v2 q.1 q.2) N (0, σ)
def F_X4_fill_B15 (N : Nat) (nx15 : (Int × Sto) → Option (Sto)) (v0 : Nat) (v1 : Nat) (v2 : Int) (v4 : Int) (σ : Sto) : Option (Sto) :=
  if (σ.1 (v1 + 8) 4) ≤ v4 then (F_X4_fill_J47 N  v0 v1 v2 σ) else (inb v4 24 ((F_X4_addStart N v0 (σ.1 ((v1 + 8) + 4) v4) σ).bind (fun q11 => nx15 ((ja v4 1), q11))))
def F_X4_fill (N : Nat) (v0 : Nat) (v1 : Nat) (v2 : Int) (σ : Sto) : Option (Sto) :=
  inb 0 25 (loopK (fun q nx15 => F_X4_fill_B15 N  nx15 v0 v1 v2 q.1 q.2) N (0, (upI (upI σ (v0 + 1) 0 0) v0 2 1)))
set_option maxHeartbeats 4000000 in
set_option maxRecDepth 100000 in
theorem c_X4_fill (l : Launch) (g : Geo) (N : Nat) (v0 : Nat) (v1 : Nat) (v2 : Int) (σ : Sto) (res : Sto) (hk0 : knd v0 = (14, 3)) (hk1 : knd v1 = (10, 14)) (h2 : inR v2) (ok : OK σ) (hF : F_X4_fill N v0 v1 v2 σ = some res) : MtV l g yX4_fill cX4_fill 6 none rm_X4_fill [vr g v0, vr g v1, vi v2, vr g 46] σ res := by
  intro sz
  refine Met.ofAt (own := RX4) (QQ := fun z => QV g z res) (by decide +kernel) (Nat.le_of_ble_eq_true rfl) rfl ?_
  intro p e s m args below meth c C hr hlk
  show At p l e rm_X4_fill s m args below meth c 0 0 g 6 (MQ below (QV g s.heap.size res) args s 0 0 (AA g s.heap.size)) 0 [(0, vr g v0), (1, vr g v1), (2, vi v2), (3, vr g 46)] [] σ
  unfold F_X4_fill at hF
  refine at_aload_n (pc := 0) C 0 dX4_fill_0 rfl rfl ?_
  refine at_getr (pc := 1) C 1 fw_4_9 hk0 rfl (Nat.le_of_ble_eq_true rfl) rfl rfl dX4_fill_1 ?_
  refine at_iconst (pc := 4) C dX4_fill_4 ?_
  refine at_iconst (pc := 5) C dX4_fill_5 ?_
  obtain ⟨b1, hF⟩ := inb_some hF
  refine at_iastore (pc := 6) C (kf4_0 hk0) b1 dX4_fill_6 ?_
  refine at_aload_n (pc := 7) C 0 dX4_fill_7 rfl rfl ?_
  refine at_iconst (pc := 8) C dX4_fill_8 ?_
  refine at_puti (pc := 9) (jz := 2) C fu_4_18 hk0 rfl (Nat.le_of_ble_eq_true rfl) rfl rfl dX4_fill_9 ?_
  refine at_iconst (pc := 12) C dX4_fill_12 ?_
  refine at_istore (pc := 13) (lv' := [(4, vi 0), (0, vr g v0), (1, vr g v1), (2, vi v2), (3, vr g 46)]) C dX4_fill_13 (Nat.le_of_ble_eq_true rfl) rfl ?_
  have L15 : ∀ (v0 : Nat) (v1 : Nat) (v2 : Int) (v4 : Int) (σ : Sto), knd v0 = (14, 3) → knd v1 = (10, 14) → inR v2 → inR v4 → OK σ → loopK (fun q nx15 => F_X4_fill_B15 N  nx15 v0 v1 v2 q.1 q.2) N (v4, σ) = some res → At p l e rm_X4_fill s m args below meth c 0 0 g 6 (MQ below (QV g s.heap.size res) args s 0 0 (AA g s.heap.size)) 15 [(0, vr g v0), (1, vr g v1), (2, vi v2), (3, vr g 46), (4, vi v4)] [] σ := by
    intro v0 v1 v2 v4 σ hk0 hk1 h2 h4 ok hF
    refine loopK_ind (res := res) (P := fun (q : Int × Sto) => inR q.1 → OK q.2 → At p l e rm_X4_fill s m args below meth c 0 0 g 6 (MQ below (QV g s.heap.size res) args s 0 0 (AA g s.heap.size)) 15 [(0, vr g v0), (1, vr g v1), (2, vi v2), (3, vr g 46), (4, vi q.1)] [] q.2) ?_ N _ hF h4 ok
    intro nx15 q ih15 hF
    obtain ⟨v4, σ⟩ := q
    intro h4 ok
    have hF : F_X4_fill_B15 N  nx15 v0 v1 v2 v4 σ = some res := hF
    unfold F_X4_fill_B15 at hF
    have J47 : ∀ (v0 : Nat) (v1 : Nat) (v2 : Int) (σ : Sto), knd v0 = (14, 3) → knd v1 = (10, 14) → inR v2 → OK σ → F_X4_fill_J47 N  v0 v1 v2 σ = some res → At p l e rm_X4_fill s m args below meth c 0 0 g 6 (MQ below (QV g s.heap.size res) args s 0 0 (AA g s.heap.size)) 47 [(0, vr g v0), (1, vr g v1), (2, vi v2), (3, vr g 46)] [] σ := by
      intro v0 v1 v2 σ hk0 hk1 h2 ok hF
      unfold F_X4_fill_J47 at hF
      refine at_iconst (pc := 47) C dX4_fill_47 ?_
      refine at_istore (pc := 48) (lv' := [(4, vi 0), (0, vr g v0), (1, vr g v1), (2, vi v2), (3, vr g 46)]) C dX4_fill_48 (Nat.le_of_ble_eq_true rfl) rfl ?_
      have L50 : ∀ (v0 : Nat) (v1 : Nat) (v2 : Int) (v4 : Int) (σ : Sto), knd v0 = (14, 3) → knd v1 = (10, 14) → inR v2 → inR v4 → OK σ → loopK (fun q nx50 => F_X4_fill_B50 N  nx50 v0 v1 v2 q.1 q.2) N (v4, σ) = some res → At p l e rm_X4_fill s m args below meth c 0 0 g 6 (MQ below (QV g s.heap.size res) args s 0 0 (AA g s.heap.size)) 50 [(0, vr g v0), (1, vr g v1), (2, vi v2), (3, vr g 46), (4, vi v4)] [] σ := by
        intro v0 v1 v2 v4 σ hk0 hk1 h2 h4 ok hF
        refine loopK_ind (res := res) (P := fun (q : Int × Sto) => inR q.1 → OK q.2 → At p l e rm_X4_fill s m args below meth c 0 0 g 6 (MQ below (QV g s.heap.size res) args s 0 0 (AA g s.heap.size)) 50 [(0, vr g v0), (1, vr g v1), (2, vi v2), (3, vr g 46), (4, vi q.1)] [] q.2) ?_ N _ hF h4 ok
        intro nx50 q ih50 hF
        obtain ⟨v4, σ⟩ := q
        intro h4 ok
        have hF : F_X4_fill_B50 N  nx50 v0 v1 v2 v4 σ = some res := hF
        unfold F_X4_fill_B50 at hF
        refine at_iload (pc := 50) C 4 dX4_fill_50 rfl ?_
        refine at_aload_n (pc := 52) C 0 dX4_fill_52 rfl rfl ?_
        refine at_geti (pc := 53) (jz := 2) C fw_4_18 hk0 rfl (Nat.le_of_ble_eq_true rfl) rfl rfl dX4_fill_53 ?_
        refine at_icmp_ge (pc := 56) (tgt := 119) C h4 (ok v0 2) dX4_fill_56 rfl (fun c2 => ?_) (fun c2 => ?_)
        · have hF := (if_pos c2).symm.trans hF
          obtain rfl := Option.some.inj hF
          exact at_vret (pc := 119) C hr hlk ok dX4_fill_119
        · have hF := (if_neg c2).symm.trans hF
          refine at_aload_n (pc := 59) C 3 dX4_fill_59 rfl rfl ?_
          refine at_aload_n (pc := 60) C 1 dX4_fill_60 rfl rfl ?_
          refine at_aload_n (pc := 61) C 0 dX4_fill_61 rfl rfl ?_
          refine at_getr (pc := 62) C 1 fw_4_9 hk0 rfl (Nat.le_of_ble_eq_true rfl) rfl rfl dX4_fill_62 ?_
          refine at_iload (pc := 65) C 4 dX4_fill_65 rfl ?_
          obtain ⟨b3, hF⟩ := inb_some hF
          refine at_iaload (pc := 67) C (kf4_0 hk0) b3 dX4_fill_67 ?_
          obtain ⟨q4, eq4, hF⟩ := bind_some' hF
          refine at_callVv (pc := 68) (ci := 10) C (c_X10_load l g N v1 (σ.1 (v0 + 1) v4) σ q4 hk1 (ok (v0 + 1) v4) ok eq4) kv_X10_load w803 kd46 rfl rfl rfl rfl (Nat.le_of_ble_eq_true rfl) ⟨rfl, rfl, (Nat.le_of_ble_eq_true rfl), (Nat.le_of_ble_eq_true rfl)⟩ dX4_fill_68 (fun okq4 => ?_)
          refine at_aload_n (pc := 71) C 3 dX4_fill_71 rfl rfl ?_
          refine at_iload_n (pc := 72) C 2 dX4_fill_72 rfl rfl ?_
          obtain ⟨q5, eq5, hF⟩ := bind_some' hF
          refine at_callVv (pc := 73) (ci := 10) C (c_X10_judge l g N v2 q4 q5 h2 okq4 eq5) kv_X10_judge w804 kd46 rfl rfl rfl rfl (Nat.le_of_ble_eq_true rfl) ⟨rfl, rfl, (Nat.le_of_ble_eq_true rfl), (Nat.le_of_ble_eq_true rfl)⟩ dX4_fill_73 (fun okq5 => ?_)
          refine at_iconst (pc := 76) C dX4_fill_76 ?_
          refine at_istore (pc := 77) (lv' := [(5, vi 0), (0, vr g v0), (1, vr g v1), (2, vi v2), (3, vr g 46), (4, vi v4)]) C dX4_fill_77 (Nat.le_of_ble_eq_true rfl) rfl ?_
          have L79 : ∀ (v4 : Int) (v5 : Int) (σ : Sto), inR v4 → inR v5 → OK σ → loopK (fun q nx79 => F_X4_fill_B79 N nx50 nx79 v0 v1 v2 v4 q.1 q.2) N (v5, σ) = some res → At p l e rm_X4_fill s m args below meth c 0 0 g 6 (MQ below (QV g s.heap.size res) args s 0 0 (AA g s.heap.size)) 79 [(0, vr g v0), (1, vr g v1), (2, vi v2), (3, vr g 46), (4, vi v4), (5, vi v5)] [] σ := by
            intro v4 v5 σ h4 h5 ok hF
            refine loopK_ind (res := res) (P := fun (q : Int × Sto) => inR q.1 → OK q.2 → At p l e rm_X4_fill s m args below meth c 0 0 g 6 (MQ below (QV g s.heap.size res) args s 0 0 (AA g s.heap.size)) 79 [(0, vr g v0), (1, vr g v1), (2, vi v2), (3, vr g 46), (4, vi v4), (5, vi q.1)] [] q.2) ?_ N _ hF h5 ok
            intro nx79 q ih79 hF
            obtain ⟨v5, σ⟩ := q
            intro h5 ok
            have hF : F_X4_fill_B79 N nx50 nx79 v0 v1 v2 v4 v5 σ = some res := hF
            unfold F_X4_fill_B79 at hF
            have J113 : ∀ (v4 : Int) (σ : Sto), inR v4 → OK σ → F_X4_fill_J113 N nx50 v0 v1 v2 v4 σ = some res → At p l e rm_X4_fill s m args below meth c 0 0 g 6 (MQ below (QV g s.heap.size res) args s 0 0 (AA g s.heap.size)) 113 [(0, vr g v0), (1, vr g v1), (2, vi v2), (3, vr g 46), (4, vi v4)] [] σ := by
              intro v4 σ h4 ok hF
              unfold F_X4_fill_J113 at hF
              refine at_iinc (pc := 113) (lv' := [(4, vi (ja v4 1)), (0, vr g v0), (1, vr g v1), (2, vi v2), (3, vr g 46)]) C 4 dX4_fill_113 rfl (Nat.le_of_ble_eq_true rfl) rfl ?_
              refine at_goto (pc := 116) (tgt := 50) C dX4_fill_116 rfl ?_
              refine at_sub (lv' := [(0, vr g v0), (1, vr g v1), (2, vi v2), (3, vr g 46), (4, vi (ja v4 1))]) [1, 2, 3, 4, 0] rfl ?_
              exact ih50 _ hF (ja_R v4 1) ok
            refine at_iload (pc := 79) C 5 dX4_fill_79 rfl ?_
            refine at_aload_n (pc := 81) C 1 dX4_fill_81 rfl rfl ?_
            refine at_geti (pc := 82) (jz := 8) C fw_4_49 hk1 rfl (Nat.le_of_ble_eq_true rfl) rfl rfl dX4_fill_82 ?_
            refine at_icmp_ge (pc := 85) (tgt := 113) C h5 (ok v1 8) dX4_fill_85 rfl (fun c6 => ?_) (fun c6 => ?_)
            · have hF := (if_pos c6).symm.trans hF
              refine at_sub (lv' := [(0, vr g v0), (1, vr g v1), (2, vi v2), (3, vr g 46), (4, vi v4)]) [0, 1, 2, 3, 4] rfl ?_
              exact J113 v4 σ h4 ok hF
            · have hF := (if_neg c6).symm.trans hF
              refine at_aload_n (pc := 88) C 0 dX4_fill_88 rfl rfl ?_
              refine at_getr (pc := 89) C 2 fw_4_15 hk0 rfl (Nat.le_of_ble_eq_true rfl) rfl rfl dX4_fill_89 ?_
              refine at_iload (pc := 92) C 4 dX4_fill_92 rfl ?_
              refine at_bipush (pc := 94) C dX4_fill_94 (by decide) ?_
              refine at_imul (pc := 96) C dX4_fill_96 ?_
              refine at_iload (pc := 97) C 5 dX4_fill_97 rfl ?_
              refine at_iadd (pc := 99) C dX4_fill_99 ?_
              refine at_aload_n (pc := 100) C 3 dX4_fill_100 rfl rfl ?_
              refine at_iload (pc := 101) C 5 dX4_fill_101 rfl ?_
              obtain ⟨q7, eq7, hF⟩ := bind_some' hF
              refine at_callV (pc := 103) (ci := 10) C (c_X10_relativesOf l g N v5 σ q7 h5 ok eq7) kv_X10_relativesOf w805 kd46 rfl rfl rfl rfl (Nat.le_of_ble_eq_true rfl) ⟨rfl, rfl, (Nat.le_of_ble_eq_true rfl), (Nat.le_of_ble_eq_true rfl)⟩ dX4_fill_103 (fun tq7 okq7 => ?_)
              obtain ⟨b8, hF⟩ := inb_some hF
              refine at_iastore (pc := 106) C (kf4_1 hk0) b8 dX4_fill_106 ?_
              refine at_iinc (pc := 107) (lv' := [(5, vi (ja v5 1)), (0, vr g v0), (1, vr g v1), (2, vi v2), (3, vr g 46), (4, vi v4)]) C 5 dX4_fill_107 rfl (Nat.le_of_ble_eq_true rfl) rfl ?_
              refine at_goto (pc := 110) (tgt := 79) C dX4_fill_110 rfl ?_
              refine at_sub (lv' := [(0, vr g v0), (1, vr g v1), (2, vi v2), (3, vr g 46), (4, vi v4), (5, vi (ja v5 1))]) [1, 2, 3, 4, 5, 0] rfl ?_
              exact ih79 _ hF (ja_R v5 1) (OK_up (k := (v0 + 2)) (j := (ja (jm v4 8) v5)) ok tq7)
          refine at_sub (lv' := [(0, vr g v0), (1, vr g v1), (2, vi v2), (3, vr g 46), (4, vi v4), (5, vi 0)]) [1, 2, 3, 4, 5, 0] rfl ?_
          exact L79 v4 0 q5 h4 (isB.r (Or.inl rfl)) okq5 hF
      refine at_sub (lv' := [(0, vr g v0), (1, vr g v1), (2, vi v2), (3, vr g 46), (4, vi 0)]) [1, 2, 3, 4, 0] rfl ?_
      exact L50 v0 v1 v2 0 σ hk0 hk1 h2 (isB.r (Or.inl rfl)) ok hF
    refine at_iload (pc := 15) C 4 dX4_fill_15 rfl ?_
    refine at_aload_n (pc := 17) C 1 dX4_fill_17 rfl rfl ?_
    refine at_getr (pc := 18) C 8 fw_4_22 hk1 rfl (Nat.le_of_ble_eq_true rfl) rfl rfl dX4_fill_18 ?_
    refine at_geti (pc := 21) (jz := 4) C fw_4_28 (kf0_7 hk1) rfl (Nat.le_of_ble_eq_true rfl) rfl rfl dX4_fill_21 ?_
    refine at_icmp_ge (pc := 24) (tgt := 47) C h4 (ok (v1 + 8) 4) dX4_fill_24 rfl (fun c9 => ?_) (fun c9 => ?_)
    · have hF := (if_pos c9).symm.trans hF
      refine at_sub (lv' := [(0, vr g v0), (1, vr g v1), (2, vi v2), (3, vr g 46)]) [0, 1, 2, 3] rfl ?_
      exact J47 v0 v1 v2 σ hk0 hk1 h2 ok hF
    · have hF := (if_neg c9).symm.trans hF
      refine at_aload_n (pc := 27) C 0 dX4_fill_27 rfl rfl ?_
      refine at_aload_n (pc := 28) C 1 dX4_fill_28 rfl rfl ?_
      refine at_getr (pc := 29) C 8 fw_4_22 hk1 rfl (Nat.le_of_ble_eq_true rfl) rfl rfl dX4_fill_29 ?_
      refine at_getr (pc := 32) C 4 fw_4_33 (kf0_7 hk1) rfl (Nat.le_of_ble_eq_true rfl) rfl rfl dX4_fill_32 ?_
      refine at_iload (pc := 35) C 4 dX4_fill_35 rfl ?_
      obtain ⟨b10, hF⟩ := inb_some hF
      refine at_iaload (pc := 37) C (kf7_3 (kf0_7 hk1)) b10 dX4_fill_37 ?_
      obtain ⟨q11, eq11, hF⟩ := bind_some' hF
      refine at_callVv (pc := 38) (ci := 4) C (c_X4_addStart l g N v0 (σ.1 ((v1 + 8) + 4) v4) σ q11 hk0 (ok ((v1 + 8) + 4) v4) ok eq11) kv_X4_addStart w799 hk0 rfl rfl rfl rfl (Nat.le_of_ble_eq_true rfl) ⟨rfl, rfl, (Nat.le_of_ble_eq_true rfl), (Nat.le_of_ble_eq_true rfl)⟩ dX4_fill_38 (fun okq11 => ?_)
      refine at_iinc (pc := 41) (lv' := [(4, vi (ja v4 1)), (0, vr g v0), (1, vr g v1), (2, vi v2), (3, vr g 46)]) C 4 dX4_fill_41 rfl (Nat.le_of_ble_eq_true rfl) rfl ?_
      refine at_goto (pc := 44) (tgt := 15) C dX4_fill_44 rfl ?_
      refine at_sub (lv' := [(0, vr g v0), (1, vr g v1), (2, vi v2), (3, vr g 46), (4, vi (ja v4 1))]) [1, 2, 3, 4, 0] rfl ?_
      exact ih15 _ hF (ja_R v4 1) okq11
  refine at_sub (lv' := [(0, vr g v0), (1, vr g v1), (2, vi v2), (3, vr g 46), (4, vi 0)]) [1, 2, 3, 4, 0] rfl ?_
  exact L15 v0 v1 v2 0 (upI (upI σ (v0 + 1) 0 0) v0 2 1) hk0 hk1 h2 (isB.r (Or.inl rfl)) (OK_up (k := v0) (j := 2) (OK_up (k := (v0 + 1)) (j := 0) ok (isB.r (Or.inl rfl))) (isB.r (Or.inr rfl))) hF
abbrev rm_X4_endOf : Room := { frames := 0, cells := 0, slots := 0, locals := 0 }
def F_X4_endOf (N : Nat) (v0 : Nat) (v1 : Int) (σ : Sto) : Option (Int) :=
  if (σ.1 v0 2) ≤ (ja v1 1) then (some 999) else (inb (ja v1 1) 25 (some (js (σ.1 (v0 + 1) (ja v1 1)) 1)))
set_option maxHeartbeats 4000000 in
set_option maxRecDepth 100000 in
theorem c_X4_endOf (l : Launch) (g : Geo) (N : Nat) (v0 : Nat) (v1 : Int) (σ : Sto) (res : Int) (hk0 : knd v0 = (14, 3)) (h1 : inR v1) (ok : OK σ) (hF : F_X4_endOf N v0 v1 σ = some res) : MtI l g yX4_endOf cX4_endOf 2 (some .int) rm_X4_endOf [vr g v0, vi v1] σ res σ inR := by
  intro sz
  refine Met.ofAt (own := RX4) (QQ := fun z => QI g z res σ inR) (by decide +kernel) (Nat.le_of_ble_eq_true rfl) rfl ?_
  intro p e s m args below meth c C hr hlk
  show At p l e rm_X4_endOf s m args below meth c 0 0 g 2 (MQ below (QI g s.heap.size res σ inR) args s 0 0 (AA g s.heap.size)) 0 [(0, vr g v0), (1, vi v1)] [] σ
  unfold F_X4_endOf at hF
  refine at_iload_n (pc := 0) C 1 dX4_endOf_0 rfl rfl ?_
  refine at_iconst (pc := 1) C dX4_endOf_1 ?_
  refine at_iadd (pc := 2) C dX4_endOf_2 ?_
  refine at_aload_n (pc := 3) C 0 dX4_endOf_3 rfl rfl ?_
  refine at_geti (pc := 4) (jz := 2) C fw_4_18 hk0 rfl (Nat.le_of_ble_eq_true rfl) rfl rfl dX4_endOf_4 ?_
  refine at_icmp_ge (pc := 7) (tgt := 23) C (ja_R v1 1) (ok v0 2) dX4_endOf_7 rfl (fun c1 => ?_) (fun c1 => ?_)
  · have hF := (if_pos c1).symm.trans hF
    refine at_sipush (pc := 23) C dX4_endOf_23 (by decide) ?_
    obtain rfl := Option.some.inj hF
    exact at_iret (pc := 26) C hr hlk (show inR 999 from ⟨by decide, by decide⟩) ok dX4_endOf_26
  · have hF := (if_neg c1).symm.trans hF
    refine at_aload_n (pc := 10) C 0 dX4_endOf_10 rfl rfl ?_
    refine at_getr (pc := 11) C 1 fw_4_9 hk0 rfl (Nat.le_of_ble_eq_true rfl) rfl rfl dX4_endOf_11 ?_
    refine at_iload_n (pc := 14) C 1 dX4_endOf_14 rfl rfl ?_
    refine at_iconst (pc := 15) C dX4_endOf_15 ?_
    refine at_iadd (pc := 16) C dX4_endOf_16 ?_
    obtain ⟨b2, hF⟩ := inb_some hF
    refine at_iaload (pc := 17) C (kf4_0 hk0) b2 dX4_endOf_17 ?_
    refine at_iconst (pc := 18) C dX4_endOf_18 ?_
    refine at_isub (pc := 19) C dX4_endOf_19 ?_
    refine at_goto (pc := 20) (tgt := 26) C dX4_endOf_20 rfl ?_
    obtain rfl := Option.some.inj hF
    exact at_iret (pc := 26) C hr hlk (js_R (σ.1 (v0 + 1) (ja v1 1)) 1) ok dX4_endOf_26
abbrev rm_X4_isTogether : Room := { frames := 0, cells := 0, slots := 0, locals := 0 }
def F_X4_isTogether (N : Nat) (v0 : Nat) (v1 : Int) (v2 : Int) (v3 : Int) (σ : Sto) : Option (Int) :=
  inb (ja (jm v1 8) v2) 200 (if (jand (jshr (σ.1 (v0 + 2) (ja (jm v1 8) v2)) v3) 1) = 1 then (some 1) else (some 0))
set_option maxHeartbeats 4000000 in
set_option maxRecDepth 100000 in
theorem c_X4_isTogether (l : Launch) (g : Geo) (N : Nat) (v0 : Nat) (v1 : Int) (v2 : Int) (v3 : Int) (σ : Sto) (res : Int) (hk0 : knd v0 = (14, 3)) (h1 : inR v1) (h2 : inR v2) (h3 : inR v3) (ok : OK σ) (hF : F_X4_isTogether N v0 v1 v2 v3 σ = some res) : MtI l g yX4_isTogether cX4_isTogether 4 (some .boolean) rm_X4_isTogether [vr g v0, vi v1, vi v2, vi v3] σ res σ isB := by
  intro sz
  refine Met.ofAt (own := RX4) (QQ := fun z => QI g z res σ isB) (by decide +kernel) (Nat.le_of_ble_eq_true rfl) rfl ?_
  intro p e s m args below meth c C hr hlk
  show At p l e rm_X4_isTogether s m args below meth c 0 0 g 4 (MQ below (QI g s.heap.size res σ isB) args s 0 0 (AA g s.heap.size)) 0 [(0, vr g v0), (1, vi v1), (2, vi v2), (3, vi v3)] [] σ
  unfold F_X4_isTogether at hF
  refine at_aload_n (pc := 0) C 0 dX4_isTogether_0 rfl rfl ?_
  refine at_getr (pc := 1) C 2 fw_4_15 hk0 rfl (Nat.le_of_ble_eq_true rfl) rfl rfl dX4_isTogether_1 ?_
  refine at_iload_n (pc := 4) C 1 dX4_isTogether_4 rfl rfl ?_
  refine at_bipush (pc := 5) C dX4_isTogether_5 (by decide) ?_
  refine at_imul (pc := 7) C dX4_isTogether_7 ?_
  refine at_iload_n (pc := 8) C 2 dX4_isTogether_8 rfl rfl ?_
  refine at_iadd (pc := 9) C dX4_isTogether_9 ?_
  obtain ⟨b1, hF⟩ := inb_some hF
  refine at_iaload (pc := 10) C (kf4_1 hk0) b1 dX4_isTogether_10 ?_
  refine at_iload_n (pc := 11) C 3 dX4_isTogether_11 rfl rfl ?_
  refine at_ishr (pc := 12) C dX4_isTogether_12 ?_
  refine at_iconst (pc := 13) C dX4_isTogether_13 ?_
  refine at_iand (pc := 14) C dX4_isTogether_14 ?_
  refine at_iconst (pc := 15) C dX4_isTogether_15 ?_
  refine at_icmp_ne (pc := 16) (tgt := 23) C (jand_R (jshr (σ.1 (v0 + 2) (ja (jm v1 8) v2)) v3) 1) (isB.r (Or.inr rfl)) dX4_isTogether_16 rfl (fun c2 => ?_) (fun c2 => ?_)
  · have hF := (if_neg c2).symm.trans hF
    refine at_iconst (pc := 23) C dX4_isTogether_23 ?_
    obtain rfl := Option.some.inj hF
    exact at_zret (pc := 24) C hr hlk (Or.inl rfl) ok dX4_isTogether_24
  · have hF := (if_pos c2).symm.trans hF
    refine at_iconst (pc := 19) C dX4_isTogether_19 ?_
    refine at_goto (pc := 20) (tgt := 24) C dX4_isTogether_20 rfl ?_
    obtain rfl := Option.some.inj hF
    exact at_zret (pc := 24) C hr hlk (Or.inr rfl) ok dX4_isTogether_24
abbrev rm_X4_daysTogether : Room := { frames := 1, cells := 0, slots := 0, locals := 23 }
def F_X4_daysTogether_J71 (N : Nat) (nx6 : (Int × Int) → Option (Int)) (v0 : Nat) (v1 : Int) (v2 : Int) (v3 : Int) (v4 : Int) (v5 : Int) (v6 : Int) (σ : Sto) : Option (Int) :=
  nx6 (v5, (ja v6 1))
def F_X4_daysTogether_B6 (N : Nat) (nx6 : (Int × Int) → Option (Int)) (v0 : Nat) (v1 : Int) (v2 : Int) (v3 : Int) (v4 : Int) (v5 : Int) (v6 : Int) (σ : Sto) : Option (Int) :=
  if (σ.1 v0 2) ≤ v6 then (some v5) else (inb v6 25 ((F_X4_endOf N v0 v6 σ).bind (fun q3 => if (jmin v4 q3) < (jmax v3 (σ.1 (v0 + 1) v6)) then (F_X4_daysTogether_J71 N nx6 v0 v1 v2 v3 v4 v5 v6 σ) else ((F_X4_isTogether N v0 v6 v1 v2 σ).bind (fun q5 => if q5 = 0 then (F_X4_daysTogether_J71 N nx6 v0 v1 v2 v3 v4 v5 v6 σ) else (F_X4_daysTogether_J71 N nx6 v0 v1 v2 v3 v4 (ja v5 (ja (js (jmin v4 q3) (jmax v3 (σ.1 (v0 + 1) v6))) 1)) v6 σ))))))
def F_X4_daysTogether (N : Nat) (v0 : Nat) (v1 : Int) (v2 : Int) (v3 : Int) (v4 : Int) (σ : Sto) : Option (Int) :=
  loopK (fun q nx6 => F_X4_daysTogether_B6 N  nx6 v0 v1 v2 v3 v4 q.1 q.2 σ) N (0, 0)
set_option maxHeartbeats 4000000 in
set_option maxRecDepth 100000 in
theorem c_X4_daysTogether (l : Launch) (g : Geo) (N : Nat) (v0 : Nat) (v1 : Int) (v2 : Int) (v3 : Int) (v4 : Int) (σ : Sto) (res : Int) (hk0 : knd v0 = (14, 3)) (h1 : inR v1) (h2 : inR v2) (h3 : inR v3) (h4 : inR v4) (ok : OK σ) (hF : F_X4_daysTogether N v0 v1 v2 v3 v4 σ = some res) : MtI l g yX4_daysTogether cX4_daysTogether 9 (some .int) rm_X4_daysTogether [vr g v0, vi v1, vi v2, vi v3, vi v4] σ res σ inR := by
  intro sz
  refine Met.ofAt (own := RX4) (QQ := fun z => QI g z res σ inR) (by decide +kernel) (Nat.le_of_ble_eq_true rfl) rfl ?_
  intro p e s m args below meth c C hr hlk
  show At p l e rm_X4_daysTogether s m args below meth c 0 0 g 9 (MQ below (QI g s.heap.size res σ inR) args s 0 0 (AA g s.heap.size)) 0 [(0, vr g v0), (1, vi v1), (2, vi v2), (3, vi v3), (4, vi v4)] [] σ
  unfold F_X4_daysTogether at hF
  refine at_iconst (pc := 0) C dX4_daysTogether_0 ?_
  refine at_istore (pc := 1) (lv' := [(5, vi 0), (0, vr g v0), (1, vi v1), (2, vi v2), (3, vi v3), (4, vi v4)]) C dX4_daysTogether_1 (Nat.le_of_ble_eq_true rfl) rfl ?_
  refine at_iconst (pc := 3) C dX4_daysTogether_3 ?_
  refine at_istore (pc := 4) (lv' := [(6, vi 0), (5, vi 0), (0, vr g v0), (1, vi v1), (2, vi v2), (3, vi v3), (4, vi v4)]) C dX4_daysTogether_4 (Nat.le_of_ble_eq_true rfl) rfl ?_
  have L6 : ∀ (v0 : Nat) (v1 : Int) (v2 : Int) (v3 : Int) (v4 : Int) (v5 : Int) (v6 : Int), knd v0 = (14, 3) → inR v1 → inR v2 → inR v3 → inR v4 → inR v5 → inR v6 → loopK (fun q nx6 => F_X4_daysTogether_B6 N  nx6 v0 v1 v2 v3 v4 q.1 q.2 σ) N (v5, v6) = some res → At p l e rm_X4_daysTogether s m args below meth c 0 0 g 9 (MQ below (QI g s.heap.size res σ inR) args s 0 0 (AA g s.heap.size)) 6 [(0, vr g v0), (1, vi v1), (2, vi v2), (3, vi v3), (4, vi v4), (5, vi v5), (6, vi v6)] [] σ := by
    intro v0 v1 v2 v3 v4 v5 v6 hk0 h1 h2 h3 h4 h5 h6 hF
    refine loopK_ind (res := res) (P := fun (q : Int × Int) => inR q.1 → inR q.2 → At p l e rm_X4_daysTogether s m args below meth c 0 0 g 9 (MQ below (QI g s.heap.size res σ inR) args s 0 0 (AA g s.heap.size)) 6 [(0, vr g v0), (1, vi v1), (2, vi v2), (3, vi v3), (4, vi v4), (5, vi q.1), (6, vi q.2)] [] σ) ?_ N _ hF h5 h6
    intro nx6 q ih6 hF
    obtain ⟨v5, v6⟩ := q
    intro h5 h6
    have hF : F_X4_daysTogether_B6 N  nx6 v0 v1 v2 v3 v4 v5 v6 σ = some res := hF
    unfold F_X4_daysTogether_B6 at hF
    refine at_iload (pc := 6) C 6 dX4_daysTogether_6 rfl ?_
    refine at_aload_n (pc := 8) C 0 dX4_daysTogether_8 rfl rfl ?_
    refine at_geti (pc := 9) (jz := 2) C fw_4_18 hk0 rfl (Nat.le_of_ble_eq_true rfl) rfl rfl dX4_daysTogether_9 ?_
    refine at_icmp_ge (pc := 12) (tgt := 77) C h6 (ok v0 2) dX4_daysTogether_12 rfl (fun c1 => ?_) (fun c1 => ?_)
    · have hF := (if_pos c1).symm.trans hF
      refine at_iload (pc := 77) C 5 dX4_daysTogether_77 rfl ?_
      obtain rfl := Option.some.inj hF
      exact at_iret (pc := 79) C hr hlk h5 ok dX4_daysTogether_79
    · have hF := (if_neg c1).symm.trans hF
      have J71 : ∀ (v5 : Int) (v6 : Int), inR v5 → inR v6 → F_X4_daysTogether_J71 N nx6 v0 v1 v2 v3 v4 v5 v6 σ = some res → At p l e rm_X4_daysTogether s m args below meth c 0 0 g 9 (MQ below (QI g s.heap.size res σ inR) args s 0 0 (AA g s.heap.size)) 71 [(0, vr g v0), (1, vi v1), (2, vi v2), (3, vi v3), (4, vi v4), (5, vi v5), (6, vi v6)] [] σ := by
        intro v5 v6 h5 h6 hF
        unfold F_X4_daysTogether_J71 at hF
        refine at_iinc (pc := 71) (lv' := [(6, vi (ja v6 1)), (0, vr g v0), (1, vi v1), (2, vi v2), (3, vi v3), (4, vi v4), (5, vi v5)]) C 6 dX4_daysTogether_71 rfl (Nat.le_of_ble_eq_true rfl) rfl ?_
        refine at_goto (pc := 74) (tgt := 6) C dX4_daysTogether_74 rfl ?_
        refine at_sub (lv' := [(0, vr g v0), (1, vi v1), (2, vi v2), (3, vi v3), (4, vi v4), (5, vi v5), (6, vi (ja v6 1))]) [1, 2, 3, 4, 5, 6, 0] rfl ?_
        exact ih6 _ hF h5 (ja_R v6 1)
      refine at_iload_n (pc := 15) C 3 dX4_daysTogether_15 rfl rfl ?_
      refine at_aload_n (pc := 16) C 0 dX4_daysTogether_16 rfl rfl ?_
      refine at_getr (pc := 17) C 1 fw_4_9 hk0 rfl (Nat.le_of_ble_eq_true rfl) rfl rfl dX4_daysTogether_17 ?_
      refine at_iload (pc := 20) C 6 dX4_daysTogether_20 rfl ?_
      obtain ⟨b2, hF⟩ := inb_some hF
      refine at_iaload (pc := 22) C (kf4_0 hk0) b2 dX4_daysTogether_22 ?_
      refine at_mmax (pc := 23) C km_max w827 h3 (ok (v0 + 1) v6) ⟨(Nat.le_of_ble_eq_true rfl), (Nat.le_of_ble_eq_true rfl)⟩ dX4_daysTogether_23 ?_
      refine at_istore (pc := 26) (lv' := [(7, vi (jmax v3 (σ.1 (v0 + 1) v6))), (0, vr g v0), (1, vi v1), (2, vi v2), (3, vi v3), (4, vi v4), (5, vi v5), (6, vi v6)]) C dX4_daysTogether_26 (Nat.le_of_ble_eq_true rfl) rfl ?_
      refine at_iload (pc := 28) C 5 dX4_daysTogether_28 rfl ?_
      refine at_aload_n (pc := 30) C 1 dX4_daysTogether_30 rfl rfl ?_
      refine at_iload (pc := 31) C 7 dX4_daysTogether_31 rfl ?_
      obtain ⟨q3, eq3, hF⟩ := bind_some' hF
      refine at_callV (pc := 33) (ci := 4) C (c_X4_endOf l g N v0 v6 σ q3 hk0 h6 ok eq3) kv_X4_endOf w828 hk0 rfl rfl rfl rfl (Nat.le_of_ble_eq_true rfl) ⟨rfl, rfl, (Nat.le_of_ble_eq_true rfl), (Nat.le_of_ble_eq_true rfl)⟩ dX4_daysTogether_33 (fun tq3 okq3 => ?_)
      refine at_mmin (pc := 36) C km_min w832 h4 tq3 ⟨(Nat.le_of_ble_eq_true rfl), (Nat.le_of_ble_eq_true rfl)⟩ dX4_daysTogether_36 ?_
      refine at_istore (pc := 39) (lv' := [(8, vi (jmin v4 q3)), (7, vi (jmax v3 (σ.1 (v0 + 1) v6))), (0, vr g v0), (1, vi v1), (2, vi v2), (3, vi v3), (4, vi v4), (5, vi v5), (6, vi v6)]) C dX4_daysTogether_39 (Nat.le_of_ble_eq_true rfl) rfl ?_
      refine at_iload (pc := 41) C 1 dX4_daysTogether_41 rfl ?_
      refine at_iload (pc := 43) C 0 dX4_daysTogether_43 rfl ?_
      refine at_icmp_gt (pc := 45) (tgt := 71) C (jmax_R h3 (ok (v0 + 1) v6)) (jmin_R h4 tq3) dX4_daysTogether_45 rfl (fun c4 => ?_) (fun c4 => ?_)
      · have hF := (if_pos c4).symm.trans hF
        refine at_sub (lv' := [(0, vr g v0), (1, vi v1), (2, vi v2), (3, vi v3), (4, vi v4), (5, vi v5), (6, vi v6)]) [2, 3, 4, 5, 6, 7, 8] rfl ?_
        exact J71 v5 v6 h5 h6 hF
      · have hF := (if_neg c4).symm.trans hF
        refine at_aload_n (pc := 48) C 2 dX4_daysTogether_48 rfl rfl ?_
        refine at_iload (pc := 49) C 8 dX4_daysTogether_49 rfl ?_
        refine at_iload_n (pc := 51) C 3 dX4_daysTogether_51 rfl rfl ?_
        refine at_iload_n (pc := 52) C 4 dX4_daysTogether_52 rfl rfl ?_
        obtain ⟨q5, eq5, hF⟩ := bind_some' hF
        refine at_callV (pc := 53) (ci := 4) C (c_X4_isTogether l g N v0 v6 v1 v2 σ q5 hk0 h6 h1 h2 ok eq5) kv_X4_isTogether w833 hk0 rfl rfl rfl rfl (Nat.le_of_ble_eq_true rfl) ⟨rfl, rfl, (Nat.le_of_ble_eq_true rfl), (Nat.le_of_ble_eq_true rfl)⟩ dX4_daysTogether_53 (fun tq5 okq5 => ?_)
        refine at_if_eq (pc := 56) (tgt := 71) C (isB.r tq5) dX4_daysTogether_56 rfl (fun c6 => ?_) (fun c6 => ?_)
        · have hF := (if_pos c6).symm.trans hF
          refine at_sub (lv' := [(0, vr g v0), (1, vi v1), (2, vi v2), (3, vi v3), (4, vi v4), (5, vi v5), (6, vi v6)]) [2, 3, 4, 5, 6, 7, 8] rfl ?_
          exact J71 v5 v6 h5 h6 hF
        · have hF := (if_neg c6).symm.trans hF
          refine at_iload (pc := 59) C 7 dX4_daysTogether_59 rfl ?_
          refine at_iload (pc := 61) C 0 dX4_daysTogether_61 rfl ?_
          refine at_iload (pc := 63) C 1 dX4_daysTogether_63 rfl ?_
          refine at_isub (pc := 65) C dX4_daysTogether_65 ?_
          refine at_iconst (pc := 66) C dX4_daysTogether_66 ?_
          refine at_iadd (pc := 67) C dX4_daysTogether_67 ?_
          refine at_iadd (pc := 68) C dX4_daysTogether_68 ?_
          refine at_istore (pc := 69) (lv' := [(5, vi (ja v5 (ja (js (jmin v4 q3) (jmax v3 (σ.1 (v0 + 1) v6))) 1))), (8, vi (jmin v4 q3)), (7, vi (jmax v3 (σ.1 (v0 + 1) v6))), (0, vr g v0), (1, vi v1), (2, vi v2), (3, vi v3), (4, vi v4), (6, vi v6)]) C dX4_daysTogether_69 (Nat.le_of_ble_eq_true rfl) rfl ?_
          refine at_sub (lv' := [(0, vr g v0), (1, vi v1), (2, vi v2), (3, vi v3), (4, vi v4), (5, vi (ja v5 (ja (js (jmin v4 q3) (jmax v3 (σ.1 (v0 + 1) v6))) 1))), (6, vi v6)]) [3, 4, 5, 6, 7, 0, 8] rfl ?_
          exact J71 (ja v5 (ja (js (jmin v4 q3) (jmax v3 (σ.1 (v0 + 1) v6))) 1)) v6 (ja_R v5 (ja (js (jmin v4 q3) (jmax v3 (σ.1 (v0 + 1) v6))) 1)) h6 hF
  refine at_sub (lv' := [(0, vr g v0), (1, vi v1), (2, vi v2), (3, vi v3), (4, vi v4), (5, vi 0), (6, vi 0)]) [2, 3, 4, 5, 6, 1, 0] rfl ?_
  exact L6 v0 v1 v2 v3 v4 0 0 hk0 h1 h2 h3 h4 (isB.r (Or.inl rfl)) (isB.r (Or.inl rfl)) hF
abbrev rm_X4_firstDay : Room := { frames := 1, cells := 0, slots := 0, locals := 23 }
def F_X4_firstDay_J20 (N : Nat)  (v0 : Nat) (v3 : Int) (σ : Sto) : Option (Int) :=
  inb v3 25 (some (σ.1 (v0 + 1) v3))
def F_X4_firstDay_B2 (N : Nat) (nx2 : (Int) → Option (Int)) (v0 : Nat) (v1 : Int) (v2 : Int) (v3 : Int) (σ : Sto) : Option (Int) :=
  if (σ.1 v0 2) ≤ v3 then (some (-2)) else ((F_X4_isTogether N v0 v3 v1 v2 σ).bind (fun q3 => if q3 = 0 then (nx2 (ja v3 1)) else (F_X4_firstDay_J20 N  v0 v3 σ)))
def F_X4_firstDay (N : Nat) (v0 : Nat) (v1 : Int) (v2 : Int) (σ : Sto) : Option (Int) :=
  loopK (fun q nx2 => F_X4_firstDay_B2 N  nx2 v0 v1 v2 q σ) N 0
set_option maxHeartbeats 4000000 in
set_option maxRecDepth 100000 in
theorem c_X4_firstDay (l : Launch) (g : Geo) (N : Nat) (v0 : Nat) (v1 : Int) (v2 : Int) (σ : Sto) (res : Int) (hk0 : knd v0 = (14, 3)) (h1 : inR v1) (h2 : inR v2) (ok : OK σ) (hF : F_X4_firstDay N v0 v1 v2 σ = some res) : MtI l g yX4_firstDay cX4_firstDay 4 (some .int) rm_X4_firstDay [vr g v0, vi v1, vi v2] σ res σ inR := by
  intro sz
  refine Met.ofAt (own := RX4) (QQ := fun z => QI g z res σ inR) (by decide +kernel) (Nat.le_of_ble_eq_true rfl) rfl ?_
  intro p e s m args below meth c C hr hlk
  show At p l e rm_X4_firstDay s m args below meth c 0 0 g 4 (MQ below (QI g s.heap.size res σ inR) args s 0 0 (AA g s.heap.size)) 0 [(0, vr g v0), (1, vi v1), (2, vi v2)] [] σ
  unfold F_X4_firstDay at hF
  refine at_iconst (pc := 0) C dX4_firstDay_0 ?_
  refine at_istore_n (pc := 1) (lv' := [(3, vi 0), (0, vr g v0), (1, vi v1), (2, vi v2)]) C dX4_firstDay_1 rfl (Nat.le_of_ble_eq_true rfl) rfl ?_
  have L2 : ∀ (v0 : Nat) (v1 : Int) (v2 : Int) (v3 : Int), knd v0 = (14, 3) → inR v1 → inR v2 → inR v3 → loopK (fun q nx2 => F_X4_firstDay_B2 N  nx2 v0 v1 v2 q σ) N v3 = some res → At p l e rm_X4_firstDay s m args below meth c 0 0 g 4 (MQ below (QI g s.heap.size res σ inR) args s 0 0 (AA g s.heap.size)) 2 [(0, vr g v0), (1, vi v1), (2, vi v2), (3, vi v3)] [] σ := by
    intro v0 v1 v2 v3 hk0 h1 h2 h3 hF
    refine loopK_ind (res := res) (P := fun (q : Int) => inR q → At p l e rm_X4_firstDay s m args below meth c 0 0 g 4 (MQ below (QI g s.heap.size res σ inR) args s 0 0 (AA g s.heap.size)) 2 [(0, vr g v0), (1, vi v1), (2, vi v2), (3, vi q)] [] σ) ?_ N _ hF h3
    intro nx2 v3 ih2 hF h3
    have hF : F_X4_firstDay_B2 N  nx2 v0 v1 v2 v3 σ = some res := hF
    unfold F_X4_firstDay_B2 at hF
    refine at_iload_n (pc := 2) C 3 dX4_firstDay_2 rfl rfl ?_
    refine at_aload_n (pc := 3) C 0 dX4_firstDay_3 rfl rfl ?_
    refine at_geti (pc := 4) (jz := 2) C fw_4_18 hk0 rfl (Nat.le_of_ble_eq_true rfl) rfl rfl dX4_firstDay_4 ?_
    refine at_icmp_ge (pc := 7) (tgt := 33) C h3 (ok v0 2) dX4_firstDay_7 rfl (fun c1 => ?_) (fun c1 => ?_)
    · have hF := (if_pos c1).symm.trans hF
      refine at_bipush (pc := 33) C dX4_firstDay_33 (by decide) ?_
      obtain rfl := Option.some.inj hF
      exact at_iret (pc := 35) C hr hlk (show inR (-2) from ⟨by decide, by decide⟩) ok dX4_firstDay_35
    · have hF := (if_neg c1).symm.trans hF
      have J20 : ∀ (v0 : Nat) (v3 : Int), knd v0 = (14, 3) → inR v3 → F_X4_firstDay_J20 N  v0 v3 σ = some res → At p l e rm_X4_firstDay s m args below meth c 0 0 g 4 (MQ below (QI g s.heap.size res σ inR) args s 0 0 (AA g s.heap.size)) 20 [(0, vr g v0), (3, vi v3)] [] σ := by
        intro v0 v3 hk0 h3 hF
        unfold F_X4_firstDay_J20 at hF
        refine at_aload_n (pc := 20) C 0 dX4_firstDay_20 rfl rfl ?_
        refine at_getr (pc := 21) C 1 fw_4_9 hk0 rfl (Nat.le_of_ble_eq_true rfl) rfl rfl dX4_firstDay_21 ?_
        refine at_iload_n (pc := 24) C 1 dX4_firstDay_24 rfl rfl ?_
        obtain ⟨b2, hF⟩ := inb_some hF
        refine at_iaload (pc := 25) C (kf4_0 hk0) b2 dX4_firstDay_25 ?_
        obtain rfl := Option.some.inj hF
        exact at_iret (pc := 26) C hr hlk (ok (v0 + 1) v3) ok dX4_firstDay_26
      refine at_aload_n (pc := 10) C 0 dX4_firstDay_10 rfl rfl ?_
      refine at_iload_n (pc := 11) C 3 dX4_firstDay_11 rfl rfl ?_
      refine at_iload_n (pc := 12) C 1 dX4_firstDay_12 rfl rfl ?_
      refine at_iload_n (pc := 13) C 2 dX4_firstDay_13 rfl rfl ?_
      obtain ⟨q3, eq3, hF⟩ := bind_some' hF
      refine at_callV (pc := 14) (ci := 4) C (c_X4_isTogether l g N v0 v3 v1 v2 σ q3 hk0 h3 h1 h2 ok eq3) kv_X4_isTogether w833 hk0 rfl rfl rfl rfl (Nat.le_of_ble_eq_true rfl) ⟨rfl, rfl, (Nat.le_of_ble_eq_true rfl), (Nat.le_of_ble_eq_true rfl)⟩ dX4_firstDay_14 (fun tq3 okq3 => ?_)
      refine at_if_eq (pc := 17) (tgt := 27) C (isB.r tq3) dX4_firstDay_17 rfl (fun c4 => ?_) (fun c4 => ?_)
      · have hF := (if_pos c4).symm.trans hF
        refine at_iinc (pc := 27) (lv' := [(3, vi (ja v3 1)), (0, vr g v0), (1, vi v1), (2, vi v2)]) C 3 dX4_firstDay_27 rfl (Nat.le_of_ble_eq_true rfl) rfl ?_
        refine at_goto (pc := 30) (tgt := 2) C dX4_firstDay_30 rfl ?_
        refine at_sub (lv' := [(0, vr g v0), (1, vi v1), (2, vi v2), (3, vi (ja v3 1))]) [1, 2, 3, 0] rfl ?_
        exact ih2 _ hF (ja_R v3 1)
      · have hF := (if_neg c4).symm.trans hF
        refine at_sub (lv' := [(0, vr g v0), (3, vi v3)]) [0, 3] rfl ?_
        exact J20 v0 v3 hk0 h3 hF
  refine at_sub (lv' := [(0, vr g v0), (1, vi v1), (2, vi v2), (3, vi 0)]) [1, 2, 3, 0] rfl ?_
  exact L2 v0 v1 v2 0 hk0 h1 h2 (isB.r (Or.inl rfl)) hF
abbrev rm_X4_lastDay : Room := { frames := 1, cells := 0, slots := 0, locals := 23 }
def F_X4_lastDay_J21 (N : Nat)  (v0 : Nat) (v3 : Int) (σ : Sto) : Option (Int) :=
  (F_X4_endOf N v0 v3 σ).bind (fun q2 => some q2)
def F_X4_lastDay_B7 (N : Nat) (nx7 : (Int) → Option (Int)) (v0 : Nat) (v1 : Int) (v2 : Int) (v3 : Int) (σ : Sto) : Option (Int) :=
  if v3 < 0 then (some (-2)) else ((F_X4_isTogether N v0 v3 v1 v2 σ).bind (fun q3 => if q3 = 0 then (nx7 (js v3 1)) else (F_X4_lastDay_J21 N  v0 v3 σ)))
def F_X4_lastDay (N : Nat) (v0 : Nat) (v1 : Int) (v2 : Int) (σ : Sto) : Option (Int) :=
  loopK (fun q nx7 => F_X4_lastDay_B7 N  nx7 v0 v1 v2 q σ) N (js (σ.1 v0 2) 1)
set_option maxHeartbeats 4000000 in
set_option maxRecDepth 100000 in
theorem c_X4_lastDay (l : Launch) (g : Geo) (N : Nat) (v0 : Nat) (v1 : Int) (v2 : Int) (σ : Sto) (res : Int) (hk0 : knd v0 = (14, 3)) (h1 : inR v1) (h2 : inR v2) (ok : OK σ) (hF : F_X4_lastDay N v0 v1 v2 σ = some res) : MtI l g yX4_lastDay cX4_lastDay 4 (some .int) rm_X4_lastDay [vr g v0, vi v1, vi v2] σ res σ inR := by
  intro sz
  refine Met.ofAt (own := RX4) (QQ := fun z => QI g z res σ inR) (by decide +kernel) (Nat.le_of_ble_eq_true rfl) rfl ?_
  intro p e s m args below meth c C hr hlk
  show At p l e rm_X4_lastDay s m args below meth c 0 0 g 4 (MQ below (QI g s.heap.size res σ inR) args s 0 0 (AA g s.heap.size)) 0 [(0, vr g v0), (1, vi v1), (2, vi v2)] [] σ
  unfold F_X4_lastDay at hF
  refine at_aload_n (pc := 0) C 0 dX4_lastDay_0 rfl rfl ?_
  refine at_geti (pc := 1) (jz := 2) C fw_4_18 hk0 rfl (Nat.le_of_ble_eq_true rfl) rfl rfl dX4_lastDay_1 ?_
  refine at_iconst (pc := 4) C dX4_lastDay_4 ?_
  refine at_isub (pc := 5) C dX4_lastDay_5 ?_
  refine at_istore_n (pc := 6) (lv' := [(3, vi (js (σ.1 v0 2) 1)), (0, vr g v0), (1, vi v1), (2, vi v2)]) C dX4_lastDay_6 rfl (Nat.le_of_ble_eq_true rfl) rfl ?_
  have L7 : ∀ (v0 : Nat) (v1 : Int) (v2 : Int) (v3 : Int), knd v0 = (14, 3) → inR v1 → inR v2 → inR v3 → loopK (fun q nx7 => F_X4_lastDay_B7 N  nx7 v0 v1 v2 q σ) N v3 = some res → At p l e rm_X4_lastDay s m args below meth c 0 0 g 4 (MQ below (QI g s.heap.size res σ inR) args s 0 0 (AA g s.heap.size)) 7 [(0, vr g v0), (1, vi v1), (2, vi v2), (3, vi v3)] [] σ := by
    intro v0 v1 v2 v3 hk0 h1 h2 h3 hF
    refine loopK_ind (res := res) (P := fun (q : Int) => inR q → At p l e rm_X4_lastDay s m args below meth c 0 0 g 4 (MQ below (QI g s.heap.size res σ inR) args s 0 0 (AA g s.heap.size)) 7 [(0, vr g v0), (1, vi v1), (2, vi v2), (3, vi q)] [] σ) ?_ N _ hF h3
    intro nx7 v3 ih7 hF h3
    have hF : F_X4_lastDay_B7 N  nx7 v0 v1 v2 v3 σ = some res := hF
    unfold F_X4_lastDay_B7 at hF
    refine at_iload_n (pc := 7) C 3 dX4_lastDay_7 rfl rfl ?_
    refine at_if_lt (pc := 8) (tgt := 33) C h3 dX4_lastDay_8 rfl (fun c1 => ?_) (fun c1 => ?_)
    · have hF := (if_pos c1).symm.trans hF
      refine at_bipush (pc := 33) C dX4_lastDay_33 (by decide) ?_
      obtain rfl := Option.some.inj hF
      exact at_iret (pc := 35) C hr hlk (show inR (-2) from ⟨by decide, by decide⟩) ok dX4_lastDay_35
    · have hF := (if_neg c1).symm.trans hF
      have J21 : ∀ (v0 : Nat) (v3 : Int), knd v0 = (14, 3) → inR v3 → F_X4_lastDay_J21 N  v0 v3 σ = some res → At p l e rm_X4_lastDay s m args below meth c 0 0 g 4 (MQ below (QI g s.heap.size res σ inR) args s 0 0 (AA g s.heap.size)) 21 [(0, vr g v0), (3, vi v3)] [] σ := by
        intro v0 v3 hk0 h3 hF
        unfold F_X4_lastDay_J21 at hF
        refine at_aload_n (pc := 21) C 0 dX4_lastDay_21 rfl rfl ?_
        refine at_iload_n (pc := 22) C 1 dX4_lastDay_22 rfl rfl ?_
        obtain ⟨q2, eq2, hF⟩ := bind_some' hF
        refine at_callV (pc := 23) (ci := 4) C (c_X4_endOf l g N v0 v3 σ q2 hk0 h3 ok eq2) kv_X4_endOf w828 hk0 rfl rfl rfl rfl (Nat.le_of_ble_eq_true rfl) ⟨rfl, rfl, (Nat.le_of_ble_eq_true rfl), (Nat.le_of_ble_eq_true rfl)⟩ dX4_lastDay_23 (fun tq2 okq2 => ?_)
        obtain rfl := Option.some.inj hF
        exact at_iret (pc := 26) C hr hlk tq2 ok dX4_lastDay_26
      refine at_aload_n (pc := 11) C 0 dX4_lastDay_11 rfl rfl ?_
      refine at_iload_n (pc := 12) C 3 dX4_lastDay_12 rfl rfl ?_
      refine at_iload_n (pc := 13) C 1 dX4_lastDay_13 rfl rfl ?_
      refine at_iload_n (pc := 14) C 2 dX4_lastDay_14 rfl rfl ?_
      obtain ⟨q3, eq3, hF⟩ := bind_some' hF
      refine at_callV (pc := 15) (ci := 4) C (c_X4_isTogether l g N v0 v3 v1 v2 σ q3 hk0 h3 h1 h2 ok eq3) kv_X4_isTogether w833 hk0 rfl rfl rfl rfl (Nat.le_of_ble_eq_true rfl) ⟨rfl, rfl, (Nat.le_of_ble_eq_true rfl), (Nat.le_of_ble_eq_true rfl)⟩ dX4_lastDay_15 (fun tq3 okq3 => ?_)
      refine at_if_eq (pc := 18) (tgt := 27) C (isB.r tq3) dX4_lastDay_18 rfl (fun c4 => ?_) (fun c4 => ?_)
      · have hF := (if_pos c4).symm.trans hF
        refine at_idec (pc := 27) (k := 1) (lv' := [(3, vi (js v3 1)), (0, vr g v0), (1, vi v1), (2, vi v2)]) C (by decide) 3 dX4_lastDay_27 rfl (Nat.le_of_ble_eq_true rfl) rfl ?_
        refine at_goto (pc := 30) (tgt := 7) C dX4_lastDay_30 rfl ?_
        refine at_sub (lv' := [(0, vr g v0), (1, vi v1), (2, vi v2), (3, vi (js v3 1))]) [1, 2, 3, 0] rfl ?_
        exact ih7 _ hF (js_R v3 1)
      · have hF := (if_neg c4).symm.trans hF
        refine at_sub (lv' := [(0, vr g v0), (3, vi v3)]) [0, 3] rfl ?_
        exact J21 v0 v3 hk0 h3 hF
  refine at_sub (lv' := [(0, vr g v0), (1, vi v1), (2, vi v2), (3, vi (js (σ.1 v0 2) 1))]) [1, 2, 3, 0] rfl ?_
  exact L7 v0 v1 v2 (js (σ.1 v0 2) 1) hk0 h1 h2 (js_R (σ.1 v0 2) 1) hF
abbrev rm_X5_clear : Room := { frames := 0, cells := 0, slots := 0, locals := 0 }
def F_X5_clear (N : Nat) (v0 : Nat) (σ : Sto) : Option (Sto) :=
  some (upI σ v0 3 0)
set_option maxHeartbeats 4000000 in
set_option maxRecDepth 100000 in
theorem c_X5_clear (l : Launch) (g : Geo) (N : Nat) (v0 : Nat) (σ : Sto) (res : Sto) (hk0 : knd v0 = (15, 4)) (ok : OK σ) (hF : F_X5_clear N v0 σ = some res) : MtV l g yX5_clear cX5_clear 1 none rm_X5_clear [vr g v0] σ res := by
  intro sz
  refine Met.ofAt (own := RX5) (QQ := fun z => QV g z res) (by decide +kernel) (Nat.le_of_ble_eq_true rfl) rfl ?_
  intro p e s m args below meth c C hr hlk
  show At p l e rm_X5_clear s m args below meth c 0 0 g 1 (MQ below (QV g s.heap.size res) args s 0 0 (AA g s.heap.size)) 0 [(0, vr g v0)] [] σ
  unfold F_X5_clear at hF
  refine at_aload_n (pc := 0) C 0 dX5_clear_0 rfl rfl ?_
  refine at_iconst (pc := 1) C dX5_clear_1 ?_
  refine at_puti (pc := 2) (jz := 3) C fu_5_21 hk0 rfl (Nat.le_of_ble_eq_true rfl) rfl rfl dX5_clear_2 ?_
  obtain rfl := Option.some.inj hF
  exact at_vret (pc := 5) C hr hlk (OK_up (k := v0) (j := 3) ok (isB.r (Or.inl rfl))) dX5_clear_5
abbrev rm_X5_has : Room := { frames := 0, cells := 0, slots := 0, locals := 0 }
def F_X5_has_J16 (N : Nat)   (σ : Sto) : Option (Int) :=
  some 0
def F_X5_has (N : Nat) (v0 : Nat) (v1 : Int) (σ : Sto) : Option (Int) :=
  if v1 < 0 then (F_X5_has_J16 N   σ) else (if (σ.1 v0 3) ≤ v1 then (F_X5_has_J16 N   σ) else (some 1))
set_option maxHeartbeats 4000000 in
set_option maxRecDepth 100000 in
theorem c_X5_has (l : Launch) (g : Geo) (N : Nat) (v0 : Nat) (v1 : Int) (σ : Sto) (res : Int) (hk0 : knd v0 = (15, 4)) (h1 : inR v1) (ok : OK σ) (hF : F_X5_has N v0 v1 σ = some res) : MtI l g yX5_has cX5_has 2 (some .boolean) rm_X5_has [vr g v0, vi v1] σ res σ isB := by
  intro sz
  refine Met.ofAt (own := RX5) (QQ := fun z => QI g z res σ isB) (by decide +kernel) (Nat.le_of_ble_eq_true rfl) rfl ?_
  intro p e s m args below meth c C hr hlk
  show At p l e rm_X5_has s m args below meth c 0 0 g 2 (MQ below (QI g s.heap.size res σ isB) args s 0 0 (AA g s.heap.size)) 0 [(0, vr g v0), (1, vi v1)] [] σ
  unfold F_X5_has at hF
  have J16 : F_X5_has_J16 N   σ = some res → At p l e rm_X5_has s m args below meth c 0 0 g 2 (MQ below (QI g s.heap.size res σ isB) args s 0 0 (AA g s.heap.size)) 16 [] [] σ := by
    intro   hF
    unfold F_X5_has_J16 at hF
    refine at_iconst (pc := 16) C dX5_has_16 ?_
    obtain rfl := Option.some.inj hF
    exact at_zret (pc := 17) C hr hlk (Or.inl rfl) ok dX5_has_17
  refine at_iload_n (pc := 0) C 1 dX5_has_0 rfl rfl ?_
  refine at_if_lt (pc := 1) (tgt := 16) C h1 dX5_has_1 rfl (fun c1 => ?_) (fun c1 => ?_)
  · have hF := (if_pos c1).symm.trans hF
    refine at_sub (lv' := []) [] rfl ?_
    exact J16  hF
  · have hF := (if_neg c1).symm.trans hF
    refine at_iload_n (pc := 4) C 1 dX5_has_4 rfl rfl ?_
    refine at_aload_n (pc := 5) C 0 dX5_has_5 rfl rfl ?_
    refine at_geti (pc := 6) (jz := 3) C fw_5_21 hk0 rfl (Nat.le_of_ble_eq_true rfl) rfl rfl dX5_has_6 ?_
    refine at_icmp_ge (pc := 9) (tgt := 16) C h1 (ok v0 3) dX5_has_9 rfl (fun c2 => ?_) (fun c2 => ?_)
    · have hF := (if_pos c2).symm.trans hF
      refine at_sub (lv' := []) [] rfl ?_
      exact J16  hF
    · have hF := (if_neg c2).symm.trans hF
      refine at_iconst (pc := 12) C dX5_has_12 ?_
      refine at_goto (pc := 13) (tgt := 17) C dX5_has_13 rfl ?_
      obtain rfl := Option.some.inj hF
      exact at_zret (pc := 17) C hr hlk (Or.inr rfl) ok dX5_has_17
abbrev rm_X5_copy : Room := { frames := 1, cells := 0, slots := 0, locals := 48 }
def F_X5_copy (N : Nat) (v0 : Nat) (v1 : Nat) (σ : Sto) : Option (Sto) :=
  grd ((0 : Int) ≤ 0 ∧ (0 : Int) ≤ 0 ∧ (0 : Int) ≤ 30 ∧ (0 : Int) + 30 ≤ 30 ∧ (0 : Int) + 30 ≤ 30) inferInstance (grd ((0 : Int) ≤ 0 ∧ (0 : Int) ≤ 0 ∧ (0 : Int) ≤ 30 ∧ (0 : Int) + 30 ≤ 30 ∧ (0 : Int) + 30 ≤ 30) inferInstance (grd ((0 : Int) ≤ 0 ∧ (0 : Int) ≤ 0 ∧ (0 : Int) ≤ 30 ∧ (0 : Int) + 30 ≤ 30 ∧ (0 : Int) + 30 ≤ 30) inferInstance (some (upI (cpI (cpI (cpI σ (v1 + 1) 0 (v0 + 1) 0 30) (v1 + 2) 0 (v0 + 2) 0 30) (v1 + 3) 0 (v0 + 3) 0 30) v0 3 ((cpI (cpI (cpI σ (v1 + 1) 0 (v0 + 1) 0 30) (v1 + 2) 0 (v0 + 2) 0 30) (v1 + 3) 0 (v0 + 3) 0 30).1 v1 3)))))
set_option maxHeartbeats 4000000 in
set_option maxRecDepth 100000 in
theorem c_X5_copy (l : Launch) (g : Geo) (N : Nat) (v0 : Nat) (v1 : Nat) (σ : Sto) (res : Sto) (hk0 : knd v0 = (15, 4)) (hk1 : knd v1 = (15, 4)) (ok : OK σ) (hF : F_X5_copy N v0 v1 σ = some res) : MtV l g yX5_copy cX5_copy 2 none rm_X5_copy [vr g v0, vr g v1] σ res := by
  intro sz
  refine Met.ofAt (own := RX5) (QQ := fun z => QV g z res) (by decide +kernel) (Nat.le_of_ble_eq_true rfl) rfl ?_
  intro p e s m args below meth c C hr hlk
  show At p l e rm_X5_copy s m args below meth c 0 0 g 2 (MQ below (QV g s.heap.size res) args s 0 0 (AA g s.heap.size)) 0 [(0, vr g v0), (1, vr g v1)] [] σ
  unfold F_X5_copy at hF
  refine at_aload_n (pc := 0) C 1 dX5_copy_0 rfl rfl ?_
  refine at_getr (pc := 1) C 1 fw_5_9 hk1 rfl (Nat.le_of_ble_eq_true rfl) rfl rfl dX5_copy_1 ?_
  refine at_iconst (pc := 4) C dX5_copy_4 ?_
  refine at_aload_n (pc := 5) C 0 dX5_copy_5 rfl rfl ?_
  refine at_getr (pc := 6) C 1 fw_5_9 hk0 rfl (Nat.le_of_ble_eq_true rfl) rfl rfl dX5_copy_6 ?_
  refine at_iconst (pc := 9) C dX5_copy_9 ?_
  refine at_bipush (pc := 10) C dX5_copy_10 (by decide) ?_
  obtain ⟨y1, hF⟩ := grd_some hF
  refine at_copy (pc := 12) C kc w1171 (kf5_0 hk1) (kf5_0 hk0) y1 ⟨(Nat.le_of_ble_eq_true rfl), (Nat.le_of_ble_eq_true rfl)⟩ dX5_copy_12 ?_
  refine at_aload_n (pc := 15) C 1 dX5_copy_15 rfl rfl ?_
  refine at_getr (pc := 16) C 2 fw_5_15 hk1 rfl (Nat.le_of_ble_eq_true rfl) rfl rfl dX5_copy_16 ?_
  refine at_iconst (pc := 19) C dX5_copy_19 ?_
  refine at_aload_n (pc := 20) C 0 dX5_copy_20 rfl rfl ?_
  refine at_getr (pc := 21) C 2 fw_5_15 hk0 rfl (Nat.le_of_ble_eq_true rfl) rfl rfl dX5_copy_21 ?_
  refine at_iconst (pc := 24) C dX5_copy_24 ?_
  refine at_bipush (pc := 25) C dX5_copy_25 (by decide) ?_
  obtain ⟨y2, hF⟩ := grd_some hF
  refine at_copy (pc := 27) C kc w1171 (kf5_1 hk1) (kf5_1 hk0) y2 ⟨(Nat.le_of_ble_eq_true rfl), (Nat.le_of_ble_eq_true rfl)⟩ dX5_copy_27 ?_
  refine at_aload_n (pc := 30) C 1 dX5_copy_30 rfl rfl ?_
  refine at_getr (pc := 31) C 3 fw_5_18 hk1 rfl (Nat.le_of_ble_eq_true rfl) rfl rfl dX5_copy_31 ?_
  refine at_iconst (pc := 34) C dX5_copy_34 ?_
  refine at_aload_n (pc := 35) C 0 dX5_copy_35 rfl rfl ?_
  refine at_getr (pc := 36) C 3 fw_5_18 hk0 rfl (Nat.le_of_ble_eq_true rfl) rfl rfl dX5_copy_36 ?_
  refine at_iconst (pc := 39) C dX5_copy_39 ?_
  refine at_bipush (pc := 40) C dX5_copy_40 (by decide) ?_
  obtain ⟨y3, hF⟩ := grd_some hF
  refine at_copy (pc := 42) C kc w1171 (kf5_2 hk1) (kf5_2 hk0) y3 ⟨(Nat.le_of_ble_eq_true rfl), (Nat.le_of_ble_eq_true rfl)⟩ dX5_copy_42 ?_
  refine at_aload_n (pc := 45) C 0 dX5_copy_45 rfl rfl ?_
  refine at_aload_n (pc := 46) C 1 dX5_copy_46 rfl rfl ?_
  refine at_geti (pc := 47) (jz := 3) C fw_5_21 hk1 rfl (Nat.le_of_ble_eq_true rfl) rfl rfl dX5_copy_47 ?_
  refine at_puti (pc := 50) (jz := 3) C fu_5_21 hk0 rfl (Nat.le_of_ble_eq_true rfl) rfl rfl dX5_copy_50 ?_
  obtain rfl := Option.some.inj hF
  exact at_vret (pc := 53) C hr hlk (OK_up (k := v0) (j := 3) (OK_cp (ks := (v1 + 3)) (sp := 0) (kd := (v0 + 3)) (dp := 0) (n := 30) (OK_cp (ks := (v1 + 2)) (sp := 0) (kd := (v0 + 2)) (dp := 0) (n := 30) (OK_cp (ks := (v1 + 1)) (sp := 0) (kd := (v0 + 1)) (dp := 0) (n := 30) ok))) ((OK_cp (ks := (v1 + 3)) (sp := 0) (kd := (v0 + 3)) (dp := 0) (n := 30) (OK_cp (ks := (v1 + 2)) (sp := 0) (kd := (v0 + 2)) (dp := 0) (n := 30) (OK_cp (ks := (v1 + 1)) (sp := 0) (kd := (v0 + 1)) (dp := 0) (n := 30) ok))) v1 3)) dX5_copy_53
abbrev rm_X5_insert : Room := { frames := 0, cells := 0, slots := 0, locals := 0 }
def F_X5_insert_J88 (N : Nat)  (v0 : Nat) (v1 : Int) (v2 : Int) (v3 : Int) (v4 : Int) (σ : Sto) : Option (Sto) :=
  inb v1 30 (some (upI (upI (upI (upI σ (v0 + 1) v1 v2) (v0 + 2) v1 v3) (v0 + 3) v1 v4) v0 3 (ja ((upI (upI (upI σ (v0 + 1) v1 v2) (v0 + 2) v1 v3) (v0 + 3) v1 v4).1 v0 3) 1)))
def F_X5_insert_B28 (N : Nat) (nx28 : (Int × Sto) → Option (Sto)) (v0 : Nat) (v1 : Int) (v2 : Int) (v3 : Int) (v4 : Int) (v5 : Int) (σ : Sto) : Option (Sto) :=
  if v5 ≤ v1 then (F_X5_insert_J88 N  v0 v1 v2 v3 v4 σ) else (inb (js v5 1) 30 (inb v5 30 (nx28 ((js v5 1), (upI (upI (upI σ (v0 + 1) v5 (σ.1 (v0 + 1) (js v5 1))) (v0 + 2) v5 ((upI σ (v0 + 1) v5 (σ.1 (v0 + 1) (js v5 1))).1 (v0 + 2) (js v5 1))) (v0 + 3) v5 ((upI (upI σ (v0 + 1) v5 (σ.1 (v0 + 1) (js v5 1))) (v0 + 2) v5 ((upI σ (v0 + 1) v5 (σ.1 (v0 + 1) (js v5 1))).1 (v0 + 2) (js v5 1))).1 (v0 + 3) (js v5 1)))))))
def F_X5_insert (N : Nat) (v0 : Nat) (v1 : Int) (v2 : Int) (v3 : Int) (v4 : Int) (σ : Sto) : Option (Sto) :=
  if v1 < 0 then (some σ) else (if (σ.1 v0 3) < v1 then (some σ) else (if (σ.1 v0 3) < 30 then (loopK (fun q nx28 => F_X5_insert_B28 N  nx28 v0 v1 v2 v3 v4 q.1 q.2) N ((σ.1 v0 3), σ)) else (some σ)))
set_option maxHeartbeats 4000000 in
set_option maxRecDepth 100000 in
theorem c_X5_insert (l : Launch) (g : Geo) (N : Nat) (v0 : Nat) (v1 : Int) (v2 : Int) (v3 : Int) (v4 : Int) (σ : Sto) (res : Sto) (hk0 : knd v0 = (15, 4)) (h1 : inR v1) (h2 : inR v2) (h3 : inR v3) (h4 : inR v4) (ok : OK σ) (hF : F_X5_insert N v0 v1 v2 v3 v4 σ = some res) : MtV l g yX5_insert cX5_insert 6 none rm_X5_insert [vr g v0, vi v1, vi v2, vi v3, vi v4] σ res := by
  intro sz
  refine Met.ofAt (own := RX5) (QQ := fun z => QV g z res) (by decide +kernel) (Nat.le_of_ble_eq_true rfl) rfl ?_
  intro p e s m args below meth c C hr hlk
  show At p l e rm_X5_insert s m args below meth c 0 0 g 6 (MQ below (QV g s.heap.size res) args s 0 0 (AA g s.heap.size)) 0 [(0, vr g v0), (1, vi v1), (2, vi v2), (3, vi v3), (4, vi v4)] [] σ
  unfold F_X5_insert at hF
  refine at_iload_n (pc := 0) C 1 dX5_insert_0 rfl rfl ?_
  refine at_if_lt (pc := 1) (tgt := 21) C h1 dX5_insert_1 rfl (fun c1 => ?_) (fun c1 => ?_)
  · have hF := (if_pos c1).symm.trans hF
    obtain rfl := Option.some.inj hF
    exact at_vret (pc := 21) C hr hlk ok dX5_insert_21
  · have hF := (if_neg c1).symm.trans hF
    refine at_iload_n (pc := 4) C 1 dX5_insert_4 rfl rfl ?_
    refine at_aload_n (pc := 5) C 0 dX5_insert_5 rfl rfl ?_
    refine at_geti (pc := 6) (jz := 3) C fw_5_21 hk0 rfl (Nat.le_of_ble_eq_true rfl) rfl rfl dX5_insert_6 ?_
    refine at_icmp_gt (pc := 9) (tgt := 21) C h1 (ok v0 3) dX5_insert_9 rfl (fun c2 => ?_) (fun c2 => ?_)
    · have hF := (if_pos c2).symm.trans hF
      obtain rfl := Option.some.inj hF
      exact at_vret (pc := 21) C hr hlk ok dX5_insert_21
    · have hF := (if_neg c2).symm.trans hF
      refine at_aload_n (pc := 12) C 0 dX5_insert_12 rfl rfl ?_
      refine at_geti (pc := 13) (jz := 3) C fw_5_21 hk0 rfl (Nat.le_of_ble_eq_true rfl) rfl rfl dX5_insert_13 ?_
      refine at_bipush (pc := 16) C dX5_insert_16 (by decide) ?_
      refine at_icmp_lt (pc := 18) (tgt := 22) C (ok v0 3) (show inR 30 from ⟨by decide, by decide⟩) dX5_insert_18 rfl (fun c3 => ?_) (fun c3 => ?_)
      · have hF := (if_pos c3).symm.trans hF
        refine at_aload_n (pc := 22) C 0 dX5_insert_22 rfl rfl ?_
        refine at_geti (pc := 23) (jz := 3) C fw_5_21 hk0 rfl (Nat.le_of_ble_eq_true rfl) rfl rfl dX5_insert_23 ?_
        refine at_istore (pc := 26) (lv' := [(5, vi (σ.1 v0 3)), (0, vr g v0), (1, vi v1), (2, vi v2), (3, vi v3), (4, vi v4)]) C dX5_insert_26 (Nat.le_of_ble_eq_true rfl) rfl ?_
        have L28 : ∀ (v0 : Nat) (v1 : Int) (v2 : Int) (v3 : Int) (v4 : Int) (v5 : Int) (σ : Sto), knd v0 = (15, 4) → inR v1 → inR v2 → inR v3 → inR v4 → inR v5 → OK σ → loopK (fun q nx28 => F_X5_insert_B28 N  nx28 v0 v1 v2 v3 v4 q.1 q.2) N (v5, σ) = some res → At p l e rm_X5_insert s m args below meth c 0 0 g 6 (MQ below (QV g s.heap.size res) args s 0 0 (AA g s.heap.size)) 28 [(0, vr g v0), (1, vi v1), (2, vi v2), (3, vi v3), (4, vi v4), (5, vi v5)] [] σ := by
          intro v0 v1 v2 v3 v4 v5 σ hk0 h1 h2 h3 h4 h5 ok hF
          refine loopK_ind (res := res) (P := fun (q : Int × Sto) => inR q.1 → OK q.2 → At p l e rm_X5_insert s m args below meth c 0 0 g 6 (MQ below (QV g s.heap.size res) args s 0 0 (AA g s.heap.size)) 28 [(0, vr g v0), (1, vi v1), (2, vi v2), (3, vi v3), (4, vi v4), (5, vi q.1)] [] q.2) ?_ N _ hF h5 ok
          intro nx28 q ih28 hF
          obtain ⟨v5, σ⟩ := q
          intro h5 ok
          have hF : F_X5_insert_B28 N  nx28 v0 v1 v2 v3 v4 v5 σ = some res := hF
          unfold F_X5_insert_B28 at hF
          have J88 : ∀ (v0 : Nat) (v1 : Int) (v2 : Int) (v3 : Int) (v4 : Int) (σ : Sto), knd v0 = (15, 4) → inR v1 → inR v2 → inR v3 → inR v4 → OK σ → F_X5_insert_J88 N  v0 v1 v2 v3 v4 σ = some res → At p l e rm_X5_insert s m args below meth c 0 0 g 6 (MQ below (QV g s.heap.size res) args s 0 0 (AA g s.heap.size)) 88 [(0, vr g v0), (1, vi v1), (2, vi v2), (3, vi v3), (4, vi v4)] [] σ := by
            intro v0 v1 v2 v3 v4 σ hk0 h1 h2 h3 h4 ok hF
            unfold F_X5_insert_J88 at hF
            refine at_aload_n (pc := 88) C 0 dX5_insert_88 rfl rfl ?_
            refine at_getr (pc := 89) C 1 fw_5_9 hk0 rfl (Nat.le_of_ble_eq_true rfl) rfl rfl dX5_insert_89 ?_
            refine at_iload_n (pc := 92) C 1 dX5_insert_92 rfl rfl ?_
            refine at_iload_n (pc := 93) C 2 dX5_insert_93 rfl rfl ?_
            obtain ⟨b4, hF⟩ := inb_some hF
            refine at_iastore (pc := 94) C (kf5_0 hk0) b4 dX5_insert_94 ?_
            refine at_aload_n (pc := 95) C 0 dX5_insert_95 rfl rfl ?_
            refine at_getr (pc := 96) C 2 fw_5_15 hk0 rfl (Nat.le_of_ble_eq_true rfl) rfl rfl dX5_insert_96 ?_
            refine at_iload_n (pc := 99) C 1 dX5_insert_99 rfl rfl ?_
            refine at_iload_n (pc := 100) C 3 dX5_insert_100 rfl rfl ?_
            refine at_iastore (pc := 101) C (kf5_1 hk0) b4 dX5_insert_101 ?_
            refine at_aload_n (pc := 102) C 0 dX5_insert_102 rfl rfl ?_
            refine at_getr (pc := 103) C 3 fw_5_18 hk0 rfl (Nat.le_of_ble_eq_true rfl) rfl rfl dX5_insert_103 ?_
            refine at_iload_n (pc := 106) C 1 dX5_insert_106 rfl rfl ?_
            refine at_iload (pc := 107) C 4 dX5_insert_107 rfl ?_
            refine at_iastore (pc := 109) C (kf5_2 hk0) b4 dX5_insert_109 ?_
            refine at_aload_n (pc := 110) C 0 dX5_insert_110 rfl rfl ?_
            refine at_dup (pc := 111) C dX5_insert_111 rfl ?_
            refine at_geti (pc := 112) (jz := 3) C fw_5_21 hk0 rfl (Nat.le_of_ble_eq_true rfl) rfl rfl dX5_insert_112 ?_
            refine at_iconst (pc := 115) C dX5_insert_115 ?_
            refine at_iadd (pc := 116) C dX5_insert_116 ?_
            refine at_puti (pc := 117) (jz := 3) C fu_5_21 hk0 rfl (Nat.le_of_ble_eq_true rfl) rfl rfl dX5_insert_117 ?_
            obtain rfl := Option.some.inj hF
            exact at_vret (pc := 120) C hr hlk (OK_up (k := v0) (j := 3) (OK_up (k := (v0 + 3)) (j := v1) (OK_up (k := (v0 + 2)) (j := v1) (OK_up (k := (v0 + 1)) (j := v1) ok h2) h3) h4) (ja_R ((upI (upI (upI σ (v0 + 1) v1 v2) (v0 + 2) v1 v3) (v0 + 3) v1 v4).1 v0 3) 1)) dX5_insert_120
          refine at_iload (pc := 28) C 5 dX5_insert_28 rfl ?_
          refine at_iload_n (pc := 30) C 1 dX5_insert_30 rfl rfl ?_
          refine at_icmp_le (pc := 31) (tgt := 88) C h5 h1 dX5_insert_31 rfl (fun c5 => ?_) (fun c5 => ?_)
          · have hF := (if_pos c5).symm.trans hF
            refine at_sub (lv' := [(0, vr g v0), (1, vi v1), (2, vi v2), (3, vi v3), (4, vi v4)]) [0, 1, 2, 3, 4] rfl ?_
            exact J88 v0 v1 v2 v3 v4 σ hk0 h1 h2 h3 h4 ok hF
          · have hF := (if_neg c5).symm.trans hF
            refine at_aload_n (pc := 34) C 0 dX5_insert_34 rfl rfl ?_
            refine at_getr (pc := 35) C 1 fw_5_9 hk0 rfl (Nat.le_of_ble_eq_true rfl) rfl rfl dX5_insert_35 ?_
            refine at_iload (pc := 38) C 5 dX5_insert_38 rfl ?_
            refine at_aload_n (pc := 40) C 0 dX5_insert_40 rfl rfl ?_
            refine at_getr (pc := 41) C 1 fw_5_9 hk0 rfl (Nat.le_of_ble_eq_true rfl) rfl rfl dX5_insert_41 ?_
            refine at_iload (pc := 44) C 5 dX5_insert_44 rfl ?_
            refine at_iconst (pc := 46) C dX5_insert_46 ?_
            refine at_isub (pc := 47) C dX5_insert_47 ?_
            obtain ⟨b6, hF⟩ := inb_some hF
            refine at_iaload (pc := 48) C (kf5_0 hk0) b6 dX5_insert_48 ?_
            obtain ⟨b7, hF⟩ := inb_some hF
            refine at_iastore (pc := 49) C (kf5_0 hk0) b7 dX5_insert_49 ?_
            refine at_aload_n (pc := 50) C 0 dX5_insert_50 rfl rfl ?_
            refine at_getr (pc := 51) C 2 fw_5_15 hk0 rfl (Nat.le_of_ble_eq_true rfl) rfl rfl dX5_insert_51 ?_
            refine at_iload (pc := 54) C 5 dX5_insert_54 rfl ?_
            refine at_aload_n (pc := 56) C 0 dX5_insert_56 rfl rfl ?_
            refine at_getr (pc := 57) C 2 fw_5_15 hk0 rfl (Nat.le_of_ble_eq_true rfl) rfl rfl dX5_insert_57 ?_
            refine at_iload (pc := 60) C 5 dX5_insert_60 rfl ?_
            refine at_iconst (pc := 62) C dX5_insert_62 ?_
            refine at_isub (pc := 63) C dX5_insert_63 ?_
            refine at_iaload (pc := 64) C (kf5_1 hk0) b6 dX5_insert_64 ?_
            refine at_iastore (pc := 65) C (kf5_1 hk0) b7 dX5_insert_65 ?_
            refine at_aload_n (pc := 66) C 0 dX5_insert_66 rfl rfl ?_
            refine at_getr (pc := 67) C 3 fw_5_18 hk0 rfl (Nat.le_of_ble_eq_true rfl) rfl rfl dX5_insert_67 ?_
            refine at_iload (pc := 70) C 5 dX5_insert_70 rfl ?_
            refine at_aload_n (pc := 72) C 0 dX5_insert_72 rfl rfl ?_
            refine at_getr (pc := 73) C 3 fw_5_18 hk0 rfl (Nat.le_of_ble_eq_true rfl) rfl rfl dX5_insert_73 ?_
            refine at_iload (pc := 76) C 5 dX5_insert_76 rfl ?_
            refine at_iconst (pc := 78) C dX5_insert_78 ?_
            refine at_isub (pc := 79) C dX5_insert_79 ?_
            refine at_iaload (pc := 80) C (kf5_2 hk0) b6 dX5_insert_80 ?_
            refine at_iastore (pc := 81) C (kf5_2 hk0) b7 dX5_insert_81 ?_
            refine at_idec (pc := 82) (k := 1) (lv' := [(5, vi (js v5 1)), (0, vr g v0), (1, vi v1), (2, vi v2), (3, vi v3), (4, vi v4)]) C (by decide) 5 dX5_insert_82 rfl (Nat.le_of_ble_eq_true rfl) rfl ?_
            refine at_goto (pc := 85) (tgt := 28) C dX5_insert_85 rfl ?_
            refine at_sub (lv' := [(0, vr g v0), (1, vi v1), (2, vi v2), (3, vi v3), (4, vi v4), (5, vi (js v5 1))]) [1, 2, 3, 4, 5, 0] rfl ?_
            exact ih28 _ hF (js_R v5 1) (OK_up (k := (v0 + 3)) (j := v5) (OK_up (k := (v0 + 2)) (j := v5) (OK_up (k := (v0 + 1)) (j := v5) ok (ok (v0 + 1) (js v5 1))) ((OK_up (k := (v0 + 1)) (j := v5) ok (ok (v0 + 1) (js v5 1))) (v0 + 2) (js v5 1))) ((OK_up (k := (v0 + 2)) (j := v5) (OK_up (k := (v0 + 1)) (j := v5) ok (ok (v0 + 1) (js v5 1))) ((OK_up (k := (v0 + 1)) (j := v5) ok (ok (v0 + 1) (js v5 1))) (v0 + 2) (js v5 1))) (v0 + 3) (js v5 1)))
        refine at_sub (lv' := [(0, vr g v0), (1, vi v1), (2, vi v2), (3, vi v3), (4, vi v4), (5, vi (σ.1 v0 3))]) [1, 2, 3, 4, 5, 0] rfl ?_
        exact L28 v0 v1 v2 v3 v4 (σ.1 v0 3) σ hk0 h1 h2 h3 h4 (ok v0 3) ok hF
      · have hF := (if_neg c3).symm.trans hF
        obtain rfl := Option.some.inj hF
        exact at_vret (pc := 21) C hr hlk ok dX5_insert_21
abbrev rm_X5_remove : Room := { frames := 1, cells := 0, slots := 0, locals := 21 }
def F_X5_remove_B21 (N : Nat) (nx21 : (Int × Sto) → Option (Sto)) (v0 : Nat) (v2 : Int) (σ : Sto) : Option (Sto) :=
  if (σ.1 v0 3) ≤ v2 then (some σ) else (inb (ja v2 1) 30 (inb v2 30 (nx21 ((ja v2 1), (upI (upI (upI σ (v0 + 1) v2 (σ.1 (v0 + 1) (ja v2 1))) (v0 + 2) v2 ((upI σ (v0 + 1) v2 (σ.1 (v0 + 1) (ja v2 1))).1 (v0 + 2) (ja v2 1))) (v0 + 3) v2 ((upI (upI σ (v0 + 1) v2 (σ.1 (v0 + 1) (ja v2 1))) (v0 + 2) v2 ((upI σ (v0 + 1) v2 (σ.1 (v0 + 1) (ja v2 1))).1 (v0 + 2) (ja v2 1))).1 (v0 + 3) (ja v2 1)))))))
def F_X5_remove (N : Nat) (v0 : Nat) (v1 : Int) (σ : Sto) : Option (Sto) :=
  (F_X5_has N v0 v1 σ).bind (fun q1 => if q1 = 0 then (some σ) else (loopK (fun q nx21 => F_X5_remove_B21 N  nx21 v0 q.1 q.2) N (v1, (upI σ v0 3 (js (σ.1 v0 3) 1)))))
set_option maxHeartbeats 4000000 in
set_option maxRecDepth 100000 in
theorem c_X5_remove (l : Launch) (g : Geo) (N : Nat) (v0 : Nat) (v1 : Int) (σ : Sto) (res : Sto) (hk0 : knd v0 = (15, 4)) (h1 : inR v1) (ok : OK σ) (hF : F_X5_remove N v0 v1 σ = some res) : MtV l g yX5_remove cX5_remove 3 none rm_X5_remove [vr g v0, vi v1] σ res := by
  intro sz
  refine Met.ofAt (own := RX5) (QQ := fun z => QV g z res) (by decide +kernel) (Nat.le_of_ble_eq_true rfl) rfl ?_
  intro p e s m args below meth c C hr hlk
  show At p l e rm_X5_remove s m args below meth c 0 0 g 3 (MQ below (QV g s.heap.size res) args s 0 0 (AA g s.heap.size)) 0 [(0, vr g v0), (1, vi v1)] [] σ
  unfold F_X5_remove at hF
  refine at_aload_n (pc := 0) C 0 dX5_remove_0 rfl rfl ?_
  refine at_iload_n (pc := 1) C 1 dX5_remove_1 rfl rfl ?_
  obtain ⟨q1, eq1, hF⟩ := bind_some' hF
  refine at_callV (pc := 2) (ci := 5) C (c_X5_has l g N v0 v1 σ q1 hk0 h1 ok eq1) kv_X5_has w932 hk0 rfl rfl rfl rfl (Nat.le_of_ble_eq_true rfl) ⟨rfl, rfl, (Nat.le_of_ble_eq_true rfl), (Nat.le_of_ble_eq_true rfl)⟩ dX5_remove_2 (fun tq1 okq1 => ?_)
  refine at_if_ne (pc := 5) (tgt := 9) C (isB.r tq1) dX5_remove_5 rfl (fun c2 => ?_) (fun c2 => ?_)
  · have hF := (if_neg c2).symm.trans hF
    refine at_aload_n (pc := 9) C 0 dX5_remove_9 rfl rfl ?_
    refine at_dup (pc := 10) C dX5_remove_10 rfl ?_
    refine at_geti (pc := 11) (jz := 3) C fw_5_21 hk0 rfl (Nat.le_of_ble_eq_true rfl) rfl rfl dX5_remove_11 ?_
    refine at_iconst (pc := 14) C dX5_remove_14 ?_
    refine at_isub (pc := 15) C dX5_remove_15 ?_
    refine at_puti (pc := 16) (jz := 3) C fu_5_21 hk0 rfl (Nat.le_of_ble_eq_true rfl) rfl rfl dX5_remove_16 ?_
    refine at_iload_n (pc := 19) C 1 dX5_remove_19 rfl rfl ?_
    refine at_istore_n (pc := 20) (lv' := [(2, vi v1), (0, vr g v0), (1, vi v1)]) C dX5_remove_20 rfl (Nat.le_of_ble_eq_true rfl) rfl ?_
    have L21 : ∀ (v0 : Nat) (v2 : Int) (σ : Sto), knd v0 = (15, 4) → inR v2 → OK σ → loopK (fun q nx21 => F_X5_remove_B21 N  nx21 v0 q.1 q.2) N (v2, σ) = some res → At p l e rm_X5_remove s m args below meth c 0 0 g 3 (MQ below (QV g s.heap.size res) args s 0 0 (AA g s.heap.size)) 21 [(0, vr g v0), (2, vi v2)] [] σ := by
      intro v0 v2 σ hk0 h2 ok hF
      refine loopK_ind (res := res) (P := fun (q : Int × Sto) => inR q.1 → OK q.2 → At p l e rm_X5_remove s m args below meth c 0 0 g 3 (MQ below (QV g s.heap.size res) args s 0 0 (AA g s.heap.size)) 21 [(0, vr g v0), (2, vi q.1)] [] q.2) ?_ N _ hF h2 ok
      intro nx21 q ih21 hF
      obtain ⟨v2, σ⟩ := q
      intro h2 ok
      have hF : F_X5_remove_B21 N  nx21 v0 v2 σ = some res := hF
      unfold F_X5_remove_B21 at hF
      refine at_iload_n (pc := 21) C 1 dX5_remove_21 rfl rfl ?_
      refine at_aload_n (pc := 22) C 0 dX5_remove_22 rfl rfl ?_
      refine at_geti (pc := 23) (jz := 3) C fw_5_21 hk0 rfl (Nat.le_of_ble_eq_true rfl) rfl rfl dX5_remove_23 ?_
      refine at_icmp_ge (pc := 26) (tgt := 77) C h2 (ok v0 3) dX5_remove_26 rfl (fun c3 => ?_) (fun c3 => ?_)
      · have hF := (if_pos c3).symm.trans hF
        obtain rfl := Option.some.inj hF
        exact at_vret (pc := 77) C hr hlk ok dX5_remove_77
      · have hF := (if_neg c3).symm.trans hF
        refine at_aload_n (pc := 29) C 0 dX5_remove_29 rfl rfl ?_
        refine at_getr (pc := 30) C 1 fw_5_9 hk0 rfl (Nat.le_of_ble_eq_true rfl) rfl rfl dX5_remove_30 ?_
        refine at_iload_n (pc := 33) C 1 dX5_remove_33 rfl rfl ?_
        refine at_aload_n (pc := 34) C 0 dX5_remove_34 rfl rfl ?_
        refine at_getr (pc := 35) C 1 fw_5_9 hk0 rfl (Nat.le_of_ble_eq_true rfl) rfl rfl dX5_remove_35 ?_
        refine at_iload_n (pc := 38) C 1 dX5_remove_38 rfl rfl ?_
        refine at_iconst (pc := 39) C dX5_remove_39 ?_
        refine at_iadd (pc := 40) C dX5_remove_40 ?_
        obtain ⟨b4, hF⟩ := inb_some hF
        refine at_iaload (pc := 41) C (kf5_0 hk0) b4 dX5_remove_41 ?_
        obtain ⟨b5, hF⟩ := inb_some hF
        refine at_iastore (pc := 42) C (kf5_0 hk0) b5 dX5_remove_42 ?_
        refine at_aload_n (pc := 43) C 0 dX5_remove_43 rfl rfl ?_
        refine at_getr (pc := 44) C 2 fw_5_15 hk0 rfl (Nat.le_of_ble_eq_true rfl) rfl rfl dX5_remove_44 ?_
        refine at_iload_n (pc := 47) C 1 dX5_remove_47 rfl rfl ?_
        refine at_aload_n (pc := 48) C 0 dX5_remove_48 rfl rfl ?_
        refine at_getr (pc := 49) C 2 fw_5_15 hk0 rfl (Nat.le_of_ble_eq_true rfl) rfl rfl dX5_remove_49 ?_
        refine at_iload_n (pc := 52) C 1 dX5_remove_52 rfl rfl ?_
        refine at_iconst (pc := 53) C dX5_remove_53 ?_
        refine at_iadd (pc := 54) C dX5_remove_54 ?_
        refine at_iaload (pc := 55) C (kf5_1 hk0) b4 dX5_remove_55 ?_
        refine at_iastore (pc := 56) C (kf5_1 hk0) b5 dX5_remove_56 ?_
        refine at_aload_n (pc := 57) C 0 dX5_remove_57 rfl rfl ?_
        refine at_getr (pc := 58) C 3 fw_5_18 hk0 rfl (Nat.le_of_ble_eq_true rfl) rfl rfl dX5_remove_58 ?_
        refine at_iload_n (pc := 61) C 1 dX5_remove_61 rfl rfl ?_
        refine at_aload_n (pc := 62) C 0 dX5_remove_62 rfl rfl ?_
        refine at_getr (pc := 63) C 3 fw_5_18 hk0 rfl (Nat.le_of_ble_eq_true rfl) rfl rfl dX5_remove_63 ?_
        refine at_iload_n (pc := 66) C 1 dX5_remove_66 rfl rfl ?_
        refine at_iconst (pc := 67) C dX5_remove_67 ?_
        refine at_iadd (pc := 68) C dX5_remove_68 ?_
        refine at_iaload (pc := 69) C (kf5_2 hk0) b4 dX5_remove_69 ?_
        refine at_iastore (pc := 70) C (kf5_2 hk0) b5 dX5_remove_70 ?_
        refine at_iinc (pc := 71) (lv' := [(2, vi (ja v2 1)), (0, vr g v0)]) C 1 dX5_remove_71 rfl (Nat.le_of_ble_eq_true rfl) rfl ?_
        refine at_goto (pc := 74) (tgt := 21) C dX5_remove_74 rfl ?_
        refine at_sub (lv' := [(0, vr g v0), (2, vi (ja v2 1))]) [1, 0] rfl ?_
        exact ih21 _ hF (ja_R v2 1) (OK_up (k := (v0 + 3)) (j := v2) (OK_up (k := (v0 + 2)) (j := v2) (OK_up (k := (v0 + 1)) (j := v2) ok (ok (v0 + 1) (ja v2 1))) ((OK_up (k := (v0 + 1)) (j := v2) ok (ok (v0 + 1) (ja v2 1))) (v0 + 2) (ja v2 1))) ((OK_up (k := (v0 + 2)) (j := v2) (OK_up (k := (v0 + 1)) (j := v2) ok (ok (v0 + 1) (ja v2 1))) ((OK_up (k := (v0 + 1)) (j := v2) ok (ok (v0 + 1) (ja v2 1))) (v0 + 2) (ja v2 1))) (v0 + 3) (ja v2 1)))
    refine at_sub (lv' := [(0, vr g v0), (2, vi v1)]) [1, 0] rfl ?_
    exact L21 v0 v1 (upI σ v0 3 (js (σ.1 v0 3) 1)) hk0 h1 (OK_up (k := v0) (j := 3) ok (js_R (σ.1 v0 3) 1)) hF
  · have hF := (if_pos c2).symm.trans hF
    obtain rfl := Option.some.inj hF
    exact at_vret (pc := 8) C hr hlk ok dX5_remove_8
