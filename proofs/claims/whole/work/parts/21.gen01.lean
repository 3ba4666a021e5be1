abbrev rm_X1_run : Room := { frames := 4, cells := 0, slots := 0, locals := 94 }
def F_X1_run_J70 (N : Nat) (nx43 : (Int × Int × Sto) → Option (Sto)) (v0 : Nat) (v1 : Int) (v2 : Int) (σ : Sto) : Option (Sto) :=
  nx43 (v1, (ja v2 1), σ)
def F_X1_run_B43 (N : Nat) (nx43 : (Int × Int × Sto) → Option (Sto)) (v0 : Nat) (v1 : Int) (v2 : Int) (σ : Sto) : Option (Sto) :=
  if 1000000 ≤ v2 then (some σ) else (if v1 = 0 then (some σ) else ((F_X1_measure N v0 σ).bind (fun q3 => (F_X1_findRoute N v0 q3).bind (fun q4 => if q4.1 = 0 then (F_X1_run_J70 N nx43 v0 q4.1 v2 q4.2) else ((F_X1_takeRoute N v0 q4.2).bind (fun q6 => F_X1_run_J70 N nx43 v0 q4.1 v2 q6))))))
def F_X1_run_J24 (N : Nat)  (v0 : Nat) (σ : Sto) : Option (Sto) :=
  loopK (fun q nx43 => F_X1_run_B43 N  nx43 v0 q.1 q.2.1 q.2.2) N (1, 0, (upI (upI (upI σ v0 10 0) v0 12 0) v0 13 0))
def F_X1_run_B2 (N : Nat) (nx2 : (Int × Sto) → Option (Sto)) (v0 : Nat) (v1 : Int) (σ : Sto) : Option (Sto) :=
  if 144 ≤ v1 then (F_X1_run_J24 N  v0 σ) else (inb v1 144 (nx2 ((ja v1 1), (upI σ (v0 + 5) v1 0))))
def F_X1_run (N : Nat) (v0 : Nat) (σ : Sto) : Option (Sto) :=
  loopK (fun q nx2 => F_X1_run_B2 N  nx2 v0 q.1 q.2) N (0, σ)
set_option maxHeartbeats 4000000 in
set_option maxRecDepth 100000 in
theorem c_X1_run (l : Launch) (g : Geo) (N : Nat) (v0 : Nat) (σ : Sto) (res : Sto) (hk0 : knd v0 = (11, 14)) (ok : OK σ) (hF : F_X1_run N v0 σ = some res) : MtV l g yX1_run cX1_run 3 none rm_X1_run [vr g v0] σ res := by
  intro sz
  refine Met.ofAt (own := RX1) (QQ := fun z => QV g z res) (by decide +kernel) (Nat.le_of_ble_eq_true rfl) rfl ?_
  intro p e s m args below meth c C hr hlk
  show At p l e rm_X1_run s m args below meth c g 3 (MQ below (QV g s.heap.size res) args s 0 0 (AA g s.heap.size)) 0 [(0, vr g v0)] [] σ
  unfold F_X1_run at hF
  refine at_iconst C dX1_run_0 ?_
  refine at_istore_n C dX1_run_1 rfl (Nat.le_of_ble_eq_true rfl) rfl ?_
  refine at_sub [1, 0] rfl ?_
  refine loopK_ind (res := res) (P := fun (q : Int × Sto) => inR q.1 → OK q.2 → At p l e rm_X1_run s m args below meth c g 3 (MQ below (QV g s.heap.size res) args s 0 0 (AA g s.heap.size)) 2 [(0, vr g v0), (1, vi q.1)] [] q.2) ?_ N _ hF (isB.r (Or.inl rfl)) ok
  intro nx2 q ih2 hF
  obtain ⟨v1, σ⟩ := q
  intro h1 ok
  have hF : F_X1_run_B2 N  nx2 v0 v1 σ = some res := hF
  unfold F_X1_run_B2 at hF
  have J24 : ∀ (v0 : Nat) (σ : Sto), knd v0 = (11, 14) → OK σ → F_X1_run_J24 N  v0 σ = some res → At p l e rm_X1_run s m args below meth c g 3 (MQ below (QV g s.heap.size res) args s 0 0 (AA g s.heap.size)) 24 [(0, vr g v0)] [] σ := by
    intro v0 σ hk0 ok hF
    unfold F_X1_run_J24 at hF
    refine at_aload_n C 0 dX1_run_24 rfl rfl ?_
    refine at_iconst C dX1_run_25 ?_
    refine at_puti (jz := 10) C fu_1_43 hk0 rfl (Nat.le_of_ble_eq_true rfl) rfl rfl dX1_run_26 ?_
    refine at_aload_n C 0 dX1_run_29 rfl rfl ?_
    refine at_iconst C dX1_run_30 ?_
    refine at_puti (jz := 12) C fu_1_49 hk0 rfl (Nat.le_of_ble_eq_true rfl) rfl rfl dX1_run_31 ?_
    refine at_aload_n C 0 dX1_run_34 rfl rfl ?_
    refine at_iconst C dX1_run_35 ?_
    refine at_puti (jz := 13) C fu_1_52 hk0 rfl (Nat.le_of_ble_eq_true rfl) rfl rfl dX1_run_36 ?_
    refine at_iconst C dX1_run_39 ?_
    refine at_istore_n C dX1_run_40 rfl (Nat.le_of_ble_eq_true rfl) rfl ?_
    refine at_iconst C dX1_run_41 ?_
    refine at_istore_n C dX1_run_42 rfl (Nat.le_of_ble_eq_true rfl) rfl ?_
    refine at_sub [2, 1, 0] rfl ?_
    refine loopK_ind (res := res) (P := fun (q : Int × Int × Sto) => isB q.1 → inR q.2.1 → OK q.2.2 → At p l e rm_X1_run s m args below meth c g 3 (MQ below (QV g s.heap.size res) args s 0 0 (AA g s.heap.size)) 43 [(0, vr g v0), (1, vi q.1), (2, vi q.2.1)] [] q.2.2) ?_ N _ hF (Or.inr rfl) (isB.r (Or.inl rfl)) (OK_up (OK_up (OK_up ok (isB.r (Or.inl rfl))) (isB.r (Or.inl rfl))) (isB.r (Or.inl rfl)))
    intro nx43 q ih43 hF
    obtain ⟨v1, v2, σ⟩ := q
    intro h1 h2 ok
    have hF : F_X1_run_B43 N  nx43 v0 v1 v2 σ = some res := hF
    unfold F_X1_run_B43 at hF
    refine at_iload_n C 2 dX1_run_43 rfl rfl ?_
    refine at_ldc (n := 1000000) C dX1_run_44 w968 ?_
    refine at_icmp_ge C h2 ⟨by decide, by decide⟩ dX1_run_46 rfl (fun c1 => ?_) (fun c1 => ?_)
    · have hF := (if_pos c1).symm.trans hF
      obtain rfl := Option.some.inj hF
      exact at_vret C hr hlk ok dX1_run_76
    · have hF := (if_neg c1).symm.trans hF
      refine at_iload_n C 1 dX1_run_49 rfl rfl ?_
      refine at_if_eq C (isB.r h1) dX1_run_50 rfl (fun c2 => ?_) (fun c2 => ?_)
      · have hF := (if_pos c2).symm.trans hF
        obtain rfl := Option.some.inj hF
        exact at_vret C hr hlk ok dX1_run_76
      · have hF := (if_neg c2).symm.trans hF
        have J70 : ∀ (v1 : Int) (v2 : Int) (σ : Sto), isB v1 → inR v2 → OK σ → F_X1_run_J70 N nx43 v0 v1 v2 σ = some res → At p l e rm_X1_run s m args below meth c g 3 (MQ below (QV g s.heap.size res) args s 0 0 (AA g s.heap.size)) 70 [(0, vr g v0), (1, vi v1), (2, vi v2)] [] σ := by
          intro v1 v2 σ h1 h2 ok hF
          unfold F_X1_run_J70 at hF
          refine at_iinc C 2 dX1_run_70 rfl (Nat.le_of_ble_eq_true rfl) rfl ?_
          refine at_goto C dX1_run_73 rfl ?_
          refine at_sub [1, 2, 0] rfl ?_
          exact ih43 _ hF h1 (ja_R _ _) ok
        refine at_aload_n C 0 dX1_run_53 rfl rfl ?_
        obtain ⟨q3, eq3, hF⟩ := bind_some' hF
        refine at_callVv (ci := 1) C (c_X1_measure l g N v0 σ q3 hk0 ok eq3) kv_X1_measure w969 hk0 rfl rfl rfl rfl (Nat.le_of_ble_eq_true rfl) ⟨rfl, rfl, (Nat.le_of_ble_eq_true rfl), (Nat.le_of_ble_eq_true rfl)⟩ dX1_run_54 (fun okq3 => ?_)
        refine at_aload_n C 0 dX1_run_57 rfl rfl ?_
        obtain ⟨q4, eq4, hF⟩ := bind_some' hF
        refine at_callV (ci := 1) C (c_X1_findRoute l g N v0 q3 q4 hk0 okq3 eq4) kv_X1_findRoute w985 hk0 rfl rfl rfl rfl (Nat.le_of_ble_eq_true rfl) ⟨rfl, rfl, (Nat.le_of_ble_eq_true rfl), (Nat.le_of_ble_eq_true rfl)⟩ dX1_run_58 (fun tq4 okq4 => ?_)
        refine at_istore_n C dX1_run_61 rfl (Nat.le_of_ble_eq_true rfl) rfl ?_
        refine at_iload_n C 0 dX1_run_62 rfl rfl ?_
        refine at_if_eq C (isB.r tq4) dX1_run_63 rfl (fun c5 => ?_) (fun c5 => ?_)
        · have hF := (if_pos c5).symm.trans hF
          refine at_sub [1, 0, 2] rfl ?_
          exact J70 q4.1 v2 q4.2 tq4 h2 okq4 hF
        · have hF := (if_neg c5).symm.trans hF
          refine at_aload_n C 1 dX1_run_66 rfl rfl ?_
          obtain ⟨q6, eq6, hF⟩ := bind_some' hF
          refine at_callVv (ci := 1) C (c_X1_takeRoute l g N v0 q4.2 q6 hk0 okq4 eq6) kv_X1_takeRoute w997 hk0 rfl rfl rfl rfl (Nat.le_of_ble_eq_true rfl) ⟨rfl, rfl, (Nat.le_of_ble_eq_true rfl), (Nat.le_of_ble_eq_true rfl)⟩ dX1_run_67 (fun okq6 => ?_)
          refine at_sub [1, 0, 2] rfl ?_
          exact J70 q4.1 v2 q6 tq4 h2 okq6 hF
  refine at_iload_n C 1 dX1_run_2 rfl rfl ?_
  refine at_aload_n C 0 dX1_run_3 rfl rfl ?_
  refine at_getr C 5 fw_1_24 hk0 rfl (Nat.le_of_ble_eq_true rfl) rfl rfl dX1_run_4 ?_
  refine at_alen (nz := 144) C (kf1_4 hk0) rfl dX1_run_7 ?_
  refine at_icmp_ge C h1 ⟨by decide, by decide⟩ dX1_run_8 rfl (fun c7 => ?_) (fun c7 => ?_)
  · have hF := (if_pos c7).symm.trans hF
    refine at_sub [0] rfl ?_
    exact J24 v0 σ hk0 ok hF
  · have hF := (if_neg c7).symm.trans hF
    refine at_aload_n C 0 dX1_run_11 rfl rfl ?_
    refine at_getr C 5 fw_1_24 hk0 rfl (Nat.le_of_ble_eq_true rfl) rfl rfl dX1_run_12 ?_
    refine at_iload_n C 1 dX1_run_15 rfl rfl ?_
    refine at_iconst C dX1_run_16 ?_
    obtain ⟨b8, hF⟩ := inb_some hF
    refine at_iastore C (kf1_4 hk0) b8 dX1_run_17 ?_
    refine at_iinc C 1 dX1_run_18 rfl (Nat.le_of_ble_eq_true rfl) rfl ?_
    refine at_goto C dX1_run_21 rfl ?_
    refine at_sub [1, 0] rfl ?_
    exact ih2 _ hF (ja_R _ _) (OK_up ok (isB.r (Or.inl rfl)))
abbrev rm_X1_totalPrice : Room := { frames := 0, cells := 0, slots := 0, locals := 0 }
def F_X1_totalPrice_J59 (N : Nat) (nx4 : (Int × Int) → Option (Int)) (v0 : Nat) (v1 : Int) (v3 : Int) (σ : Sto) : Option (Int) :=
  nx4 (v1, (ja v3 1))
def F_X1_totalPrice_B15 (N : Nat) (nx4 : (Int × Int) → Option (Int)) (nx15 : (Int × Int) → Option (Int)) (v0 : Nat) (v3 : Int) (v1 : Int) (v4 : Int) (σ : Sto) : Option (Int) :=
  if (σ.1 v0 11) ≤ v4 then (F_X1_totalPrice_J59 N nx4 v0 v1 v3 σ) else (inb (ja (jm v3 12) v4) 144 (nx15 ((jla v1 (jlm (σ.1 (v0 + 4) (ja (jm v3 12) v4)) (σ.1 (v0 + 5) (ja (jm v3 12) v4)))), (ja v4 1))))
def F_X1_totalPrice_B4 (N : Nat) (nx4 : (Int × Int) → Option (Int)) (v0 : Nat) (v1 : Int) (v3 : Int) (σ : Sto) : Option (Int) :=
  if (σ.1 v0 11) ≤ v3 then (some v1) else (loopK (fun q nx15 => F_X1_totalPrice_B15 N nx4 nx15 v0 v3 q.1 q.2 σ) N (v1, 0))
def F_X1_totalPrice (N : Nat) (v0 : Nat) (σ : Sto) : Option (Int) :=
  loopK (fun q nx4 => F_X1_totalPrice_B4 N  nx4 v0 q.1 q.2 σ) N (0, 0)
set_option maxHeartbeats 4000000 in
set_option maxRecDepth 100000 in
theorem c_X1_totalPrice (l : Launch) (g : Geo) (N : Nat) (v0 : Nat) (σ : Sto) (res : Int) (hk0 : knd v0 = (11, 14)) (ok : OK σ) (hF : F_X1_totalPrice N v0 σ = some res) : MtL l g yX1_totalPrice cX1_totalPrice 6 (some .long) rm_X1_totalPrice [vr g v0] σ res σ := by
  intro sz
  refine Met.ofAt (own := RX1) (QQ := fun z => QL g z res σ) (by decide +kernel) (Nat.le_of_ble_eq_true rfl) rfl ?_
  intro p e s m args below meth c C hr hlk
  show At p l e rm_X1_totalPrice s m args below meth c g 6 (MQ below (QL g s.heap.size res σ) args s 0 0 (AA g s.heap.size)) 0 [(0, vr g v0)] [] σ
  unfold F_X1_totalPrice at hF
  refine at_lconst0 C dX1_totalPrice_0 ?_
  refine at_lstore_n C dX1_totalPrice_1 rfl (Nat.le_of_ble_eq_true rfl) rfl ?_
  refine at_iconst C dX1_totalPrice_2 ?_
  refine at_istore_n C dX1_totalPrice_3 rfl (Nat.le_of_ble_eq_true rfl) rfl ?_
  refine at_sub [2, 1, 0] rfl ?_
  refine loopK_ind (res := res) (P := fun (q : Int × Int) => inL q.1 → inR q.2 → At p l e rm_X1_totalPrice s m args below meth c g 6 (MQ below (QL g s.heap.size res σ) args s 0 0 (AA g s.heap.size)) 4 [(0, vr g v0), (1, vl q.1), (3, vi q.2)] [] σ) ?_ N _ hF ⟨by decide, by decide⟩ (isB.r (Or.inl rfl))
  intro nx4 q ih4 hF
  obtain ⟨v1, v3⟩ := q
  intro h1 h3
  have hF : F_X1_totalPrice_B4 N  nx4 v0 v1 v3 σ = some res := hF
  unfold F_X1_totalPrice_B4 at hF
  refine at_iload_n C 2 dX1_totalPrice_4 rfl rfl ?_
  refine at_aload_n C 0 dX1_totalPrice_5 rfl rfl ?_
  refine at_geti (jz := 11) C fw_1_46 hk0 rfl (Nat.le_of_ble_eq_true rfl) rfl rfl dX1_totalPrice_6 ?_
  refine at_icmp_ge C h3 (ok _ _) dX1_totalPrice_9 rfl (fun c1 => ?_) (fun c1 => ?_)
  · have hF := (if_pos c1).symm.trans hF
    refine at_lload_n C 1 dX1_totalPrice_65 rfl rfl ?_
    obtain rfl := Option.some.inj hF
    exact at_lret C hr hlk h1 ok dX1_totalPrice_66
  · have hF := (if_neg c1).symm.trans hF
    refine at_iconst C dX1_totalPrice_12 ?_
    refine at_istore C dX1_totalPrice_13 (Nat.le_of_ble_eq_true rfl) rfl ?_
    refine at_sub [1, 2, 3, 0] rfl ?_
    refine loopK_ind (res := res) (P := fun (q : Int × Int) => inL q.1 → inR q.2 → At p l e rm_X1_totalPrice s m args below meth c g 6 (MQ below (QL g s.heap.size res σ) args s 0 0 (AA g s.heap.size)) 15 [(0, vr g v0), (1, vl q.1), (3, vi v3), (4, vi q.2)] [] σ) ?_ N _ hF h1 (isB.r (Or.inl rfl))
    intro nx15 q ih15 hF
    obtain ⟨v1, v4⟩ := q
    intro h1 h4
    have hF : F_X1_totalPrice_B15 N nx4 nx15 v0 v3 v1 v4 σ = some res := hF
    unfold F_X1_totalPrice_B15 at hF
    have J59 : ∀ (v1 : Int) (v3 : Int), inL v1 → inR v3 → F_X1_totalPrice_J59 N nx4 v0 v1 v3 σ = some res → At p l e rm_X1_totalPrice s m args below meth c g 6 (MQ below (QL g s.heap.size res σ) args s 0 0 (AA g s.heap.size)) 59 [(0, vr g v0), (1, vl v1), (3, vi v3)] [] σ := by
      intro v1 v3 h1 h3 hF
      unfold F_X1_totalPrice_J59 at hF
      refine at_iinc C 2 dX1_totalPrice_59 rfl (Nat.le_of_ble_eq_true rfl) rfl ?_
      refine at_goto C dX1_totalPrice_62 rfl ?_
      refine at_sub [1, 2, 0] rfl ?_
      exact ih4 _ hF h1 (ja_R _ _)
    refine at_iload C 3 dX1_totalPrice_15 rfl ?_
    refine at_aload_n C 0 dX1_totalPrice_17 rfl rfl ?_
    refine at_geti (jz := 11) C fw_1_46 hk0 rfl (Nat.le_of_ble_eq_true rfl) rfl rfl dX1_totalPrice_18 ?_
    refine at_icmp_ge C h4 (ok _ _) dX1_totalPrice_21 rfl (fun c2 => ?_) (fun c2 => ?_)
    · have hF := (if_pos c2).symm.trans hF
      refine at_sub [0, 1, 2] rfl ?_
      exact J59 v1 v3 h1 h3 hF
    · have hF := (if_neg c2).symm.trans hF
      refine at_iload_n C 2 dX1_totalPrice_24 rfl rfl ?_
      refine at_bipush C dX1_totalPrice_25 (by decide) ?_
      refine at_imul C dX1_totalPrice_27 ?_
      refine at_iload C 3 dX1_totalPrice_28 rfl ?_
      refine at_iadd C dX1_totalPrice_30 ?_
      refine at_istore C dX1_totalPrice_31 (Nat.le_of_ble_eq_true rfl) rfl ?_
      refine at_lload_n C 2 dX1_totalPrice_33 rfl rfl ?_
      refine at_aload_n C 1 dX1_totalPrice_34 rfl rfl ?_
      refine at_getr C 4 fw_1_21 hk0 rfl (Nat.le_of_ble_eq_true rfl) rfl rfl dX1_totalPrice_35 ?_
      refine at_iload C 0 dX1_totalPrice_38 rfl ?_
      obtain ⟨b3, hF⟩ := inb_some hF
      refine at_iaload C (kf1_3 hk0) b3 dX1_totalPrice_40 ?_
      refine at_i2l C (ok _ _) dX1_totalPrice_41 ?_
      refine at_aload_n C 1 dX1_totalPrice_42 rfl rfl ?_
      refine at_getr C 5 fw_1_24 hk0 rfl (Nat.le_of_ble_eq_true rfl) rfl rfl dX1_totalPrice_43 ?_
      refine at_iload C 0 dX1_totalPrice_46 rfl ?_
      refine at_iaload C (kf1_4 hk0) b3 dX1_totalPrice_48 ?_
      refine at_i2l C (ok _ _) dX1_totalPrice_49 ?_
      refine at_lmul C dX1_totalPrice_50 ?_
      refine at_ladd C dX1_totalPrice_51 ?_
      refine at_lstore_n C dX1_totalPrice_52 rfl (Nat.le_of_ble_eq_true rfl) rfl ?_
      refine at_iinc C 4 dX1_totalPrice_53 rfl (Nat.le_of_ble_eq_true rfl) rfl ?_
      refine at_goto C dX1_totalPrice_56 rfl ?_
      refine at_sub [3, 1, 4, 0] rfl ?_
      exact ih15 _ hF (jla_L _ _) (ja_R _ _)
abbrev rm_X1_usedLinks : Room := { frames := 0, cells := 0, slots := 0, locals := 0 }
def F_X1_usedLinks_J25 (N : Nat) (nx4 : (Int × Int) → Option (Int)) (v0 : Nat) (v1 : Int) (v2 : Int) (σ : Sto) : Option (Int) :=
  nx4 (v1, (ja v2 1))
def F_X1_usedLinks_B4 (N : Nat) (nx4 : (Int × Int) → Option (Int)) (v0 : Nat) (v1 : Int) (v2 : Int) (σ : Sto) : Option (Int) :=
  if 144 ≤ v2 then (some v1) else (inb v2 144 (if (σ.1 (v0 + 5) v2) ≤ 0 then (F_X1_usedLinks_J25 N nx4 v0 v1 v2 σ) else (F_X1_usedLinks_J25 N nx4 v0 (ja v1 1) v2 σ)))
def F_X1_usedLinks (N : Nat) (v0 : Nat) (σ : Sto) : Option (Int) :=
  loopK (fun q nx4 => F_X1_usedLinks_B4 N  nx4 v0 q.1 q.2 σ) N (0, 0)
set_option maxHeartbeats 4000000 in
set_option maxRecDepth 100000 in
theorem c_X1_usedLinks (l : Launch) (g : Geo) (N : Nat) (v0 : Nat) (σ : Sto) (res : Int) (hk0 : knd v0 = (11, 14)) (ok : OK σ) (hF : F_X1_usedLinks N v0 σ = some res) : MtI l g yX1_usedLinks cX1_usedLinks 3 (some .int) rm_X1_usedLinks [vr g v0] σ res σ inR := by
  intro sz
  refine Met.ofAt (own := RX1) (QQ := fun z => QI g z res σ inR) (by decide +kernel) (Nat.le_of_ble_eq_true rfl) rfl ?_
  intro p e s m args below meth c C hr hlk
  show At p l e rm_X1_usedLinks s m args below meth c g 3 (MQ below (QI g s.heap.size res σ inR) args s 0 0 (AA g s.heap.size)) 0 [(0, vr g v0)] [] σ
  unfold F_X1_usedLinks at hF
  refine at_iconst C dX1_usedLinks_0 ?_
  refine at_istore_n C dX1_usedLinks_1 rfl (Nat.le_of_ble_eq_true rfl) rfl ?_
  refine at_iconst C dX1_usedLinks_2 ?_
  refine at_istore_n C dX1_usedLinks_3 rfl (Nat.le_of_ble_eq_true rfl) rfl ?_
  refine at_sub [2, 1, 0] rfl ?_
  refine loopK_ind (res := res) (P := fun (q : Int × Int) => inR q.1 → inR q.2 → At p l e rm_X1_usedLinks s m args below meth c g 3 (MQ below (QI g s.heap.size res σ inR) args s 0 0 (AA g s.heap.size)) 4 [(0, vr g v0), (1, vi q.1), (2, vi q.2)] [] σ) ?_ N _ hF (isB.r (Or.inl rfl)) (isB.r (Or.inl rfl))
  intro nx4 q ih4 hF
  obtain ⟨v1, v2⟩ := q
  intro h1 h2
  have hF : F_X1_usedLinks_B4 N  nx4 v0 v1 v2 σ = some res := hF
  unfold F_X1_usedLinks_B4 at hF
  refine at_iload_n C 2 dX1_usedLinks_4 rfl rfl ?_
  refine at_aload_n C 0 dX1_usedLinks_5 rfl rfl ?_
  refine at_getr C 5 fw_1_24 hk0 rfl (Nat.le_of_ble_eq_true rfl) rfl rfl dX1_usedLinks_6 ?_
  refine at_alen (nz := 144) C (kf1_4 hk0) rfl dX1_usedLinks_9 ?_
  refine at_icmp_ge C h2 ⟨by decide, by decide⟩ dX1_usedLinks_10 rfl (fun c1 => ?_) (fun c1 => ?_)
  · have hF := (if_pos c1).symm.trans hF
    refine at_iload_n C 1 dX1_usedLinks_31 rfl rfl ?_
    obtain rfl := Option.some.inj hF
    exact at_iret C hr hlk h1 ok dX1_usedLinks_32
  · have hF := (if_neg c1).symm.trans hF
    have J25 : ∀ (v1 : Int) (v2 : Int), inR v1 → inR v2 → F_X1_usedLinks_J25 N nx4 v0 v1 v2 σ = some res → At p l e rm_X1_usedLinks s m args below meth c g 3 (MQ below (QI g s.heap.size res σ inR) args s 0 0 (AA g s.heap.size)) 25 [(0, vr g v0), (1, vi v1), (2, vi v2)] [] σ := by
      intro v1 v2 h1 h2 hF
      unfold F_X1_usedLinks_J25 at hF
      refine at_iinc C 2 dX1_usedLinks_25 rfl (Nat.le_of_ble_eq_true rfl) rfl ?_
      refine at_goto C dX1_usedLinks_28 rfl ?_
      refine at_sub [1, 2, 0] rfl ?_
      exact ih4 _ hF h1 (ja_R _ _)
    refine at_aload_n C 0 dX1_usedLinks_13 rfl rfl ?_
    refine at_getr C 5 fw_1_24 hk0 rfl (Nat.le_of_ble_eq_true rfl) rfl rfl dX1_usedLinks_14 ?_
    refine at_iload_n C 2 dX1_usedLinks_17 rfl rfl ?_
    obtain ⟨b2, hF⟩ := inb_some hF
    refine at_iaload C (kf1_4 hk0) b2 dX1_usedLinks_18 ?_
    refine at_if_le C (ok _ _) dX1_usedLinks_19 rfl (fun c3 => ?_) (fun c3 => ?_)
    · have hF := (if_pos c3).symm.trans hF
      exact J25 v1 v2 h1 h2 hF
    · have hF := (if_neg c3).symm.trans hF
      refine at_iinc C 1 dX1_usedLinks_22 rfl (Nat.le_of_ble_eq_true rfl) rfl ?_
      refine at_sub [1, 0, 2] rfl ?_
      exact J25 (ja v1 1) v2 (ja_R _ _) h2 hF
abbrev rm_X1_neighboursOf : Room := { frames := 1, cells := 0, slots := 0, locals := 23 }
def F_X1_neighboursOf_J27 (N : Nat) (nx4 : (Int × Int) → Option (Int)) (v0 : Nat) (v1 : Int) (v2 : Int) (v3 : Int) (σ : Sto) : Option (Int) :=
  nx4 (v2, (ja v3 1))
def F_X1_neighboursOf_B4 (N : Nat) (nx4 : (Int × Int) → Option (Int)) (v0 : Nat) (v1 : Int) (v2 : Int) (v3 : Int) (σ : Sto) : Option (Int) :=
  if (σ.1 v0 11) ≤ v3 then (some v2) else ((F_X1_passable N v0 v1 v3 σ).bind (fun q2 => if q2 ≤ 0 then (F_X1_neighboursOf_J27 N nx4 v0 v1 v2 v3 σ) else (F_X1_neighboursOf_J27 N nx4 v0 v1 (jor v2 (jshl 1 v3)) v3 σ)))
def F_X1_neighboursOf (N : Nat) (v0 : Nat) (v1 : Int) (σ : Sto) : Option (Int) :=
  loopK (fun q nx4 => F_X1_neighboursOf_B4 N  nx4 v0 v1 q.1 q.2 σ) N (0, 0)
set_option maxHeartbeats 4000000 in
set_option maxRecDepth 100000 in
theorem c_X1_neighboursOf (l : Launch) (g : Geo) (N : Nat) (v0 : Nat) (v1 : Int) (σ : Sto) (res : Int) (hk0 : knd v0 = (11, 14)) (h1 : inR v1) (ok : OK σ) (hF : F_X1_neighboursOf N v0 v1 σ = some res) : MtI l g yX1_neighboursOf cX1_neighboursOf 4 (some .int) rm_X1_neighboursOf [vr g v0, vi v1] σ res σ inR := by
  intro sz
  refine Met.ofAt (own := RX1) (QQ := fun z => QI g z res σ inR) (by decide +kernel) (Nat.le_of_ble_eq_true rfl) rfl ?_
  intro p e s m args below meth c C hr hlk
  show At p l e rm_X1_neighboursOf s m args below meth c g 4 (MQ below (QI g s.heap.size res σ inR) args s 0 0 (AA g s.heap.size)) 0 [(0, vr g v0), (1, vi v1)] [] σ
  unfold F_X1_neighboursOf at hF
  refine at_iconst C dX1_neighboursOf_0 ?_
  refine at_istore_n C dX1_neighboursOf_1 rfl (Nat.le_of_ble_eq_true rfl) rfl ?_
  refine at_iconst C dX1_neighboursOf_2 ?_
  refine at_istore_n C dX1_neighboursOf_3 rfl (Nat.le_of_ble_eq_true rfl) rfl ?_
  refine at_sub [2, 3, 1, 0] rfl ?_
  refine loopK_ind (res := res) (P := fun (q : Int × Int) => inR q.1 → inR q.2 → At p l e rm_X1_neighboursOf s m args below meth c g 4 (MQ below (QI g s.heap.size res σ inR) args s 0 0 (AA g s.heap.size)) 4 [(0, vr g v0), (1, vi v1), (2, vi q.1), (3, vi q.2)] [] σ) ?_ N _ hF (isB.r (Or.inl rfl)) (isB.r (Or.inl rfl))
  intro nx4 q ih4 hF
  obtain ⟨v2, v3⟩ := q
  intro h2 h3
  have hF : F_X1_neighboursOf_B4 N  nx4 v0 v1 v2 v3 σ = some res := hF
  unfold F_X1_neighboursOf_B4 at hF
  refine at_iload_n C 3 dX1_neighboursOf_4 rfl rfl ?_
  refine at_aload_n C 0 dX1_neighboursOf_5 rfl rfl ?_
  refine at_geti (jz := 11) C fw_1_46 hk0 rfl (Nat.le_of_ble_eq_true rfl) rfl rfl dX1_neighboursOf_6 ?_
  refine at_icmp_ge C h3 (ok _ _) dX1_neighboursOf_9 rfl (fun c1 => ?_) (fun c1 => ?_)
  · have hF := (if_pos c1).symm.trans hF
    refine at_iload_n C 2 dX1_neighboursOf_33 rfl rfl ?_
    obtain rfl := Option.some.inj hF
    exact at_iret C hr hlk h2 ok dX1_neighboursOf_34
  · have hF := (if_neg c1).symm.trans hF
    have J27 : ∀ (v2 : Int) (v3 : Int), inR v2 → inR v3 → F_X1_neighboursOf_J27 N nx4 v0 v1 v2 v3 σ = some res → At p l e rm_X1_neighboursOf s m args below meth c g 4 (MQ below (QI g s.heap.size res σ inR) args s 0 0 (AA g s.heap.size)) 27 [(0, vr g v0), (1, vi v1), (2, vi v2), (3, vi v3)] [] σ := by
      intro v2 v3 h2 h3 hF
      unfold F_X1_neighboursOf_J27 at hF
      refine at_iinc C 3 dX1_neighboursOf_27 rfl (Nat.le_of_ble_eq_true rfl) rfl ?_
      refine at_goto C dX1_neighboursOf_30 rfl ?_
      refine at_sub [1, 2, 3, 0] rfl ?_
      exact ih4 _ hF h2 (ja_R _ _)
    refine at_aload_n C 0 dX1_neighboursOf_12 rfl rfl ?_
    refine at_iload_n C 1 dX1_neighboursOf_13 rfl rfl ?_
    refine at_iload_n C 3 dX1_neighboursOf_14 rfl rfl ?_
    obtain ⟨q2, eq2, hF⟩ := bind_some' hF
    refine at_callV (ci := 1) C (c_X1_passable l g N v0 v1 v3 σ q2 hk0 h1 h3 ok eq2) kv_X1_passable w993 hk0 rfl rfl rfl rfl (Nat.le_of_ble_eq_true rfl) ⟨rfl, rfl, (Nat.le_of_ble_eq_true rfl), (Nat.le_of_ble_eq_true rfl)⟩ dX1_neighboursOf_15 (fun tq2 okq2 => ?_)
    refine at_if_le C tq2 dX1_neighboursOf_18 rfl (fun c3 => ?_) (fun c3 => ?_)
    · have hF := (if_pos c3).symm.trans hF
      exact J27 v2 v3 h2 h3 hF
    · have hF := (if_neg c3).symm.trans hF
      refine at_iload_n C 2 dX1_neighboursOf_21 rfl rfl ?_
      refine at_iconst C dX1_neighboursOf_22 ?_
      refine at_iload_n C 3 dX1_neighboursOf_23 rfl rfl ?_
      refine at_ishl C dX1_neighboursOf_24 ?_
      refine at_ior C dX1_neighboursOf_25 ?_
      refine at_istore_n C dX1_neighboursOf_26 rfl (Nat.le_of_ble_eq_true rfl) rfl ?_
      refine at_sub [1, 2, 0, 3] rfl ?_
      exact J27 (jor v2 (jshl 1 v3)) v3 (jor_R _ _) h3 hF
abbrev rm_X1_reachedBits : Room := { frames := 2, cells := 0, slots := 0, locals := 46 }
def F_X1_reachedBits_J85 (N : Nat) (nx44 : (Int × Int) → Option (Int)) (v0 : Nat) (v1 : Int) (v2 : Int) (σ : Sto) : Option (Int) :=
  nx44 (v1, (ja v2 1))
def F_X1_reachedBits_J79 (N : Nat) (nx44 : (Int × Int) → Option (Int)) (nx54 : (Int × Int) → Option (Int)) (v0 : Nat) (v1 : Int) (v2 : Int) (v3 : Int) (σ : Sto) : Option (Int) :=
  nx54 (v1, (ja v3 1))
def F_X1_reachedBits_B54 (N : Nat) (nx44 : (Int × Int) → Option (Int)) (nx54 : (Int × Int) → Option (Int)) (v0 : Nat) (v2 : Int) (v1 : Int) (v3 : Int) (σ : Sto) : Option (Int) :=
  if (σ.1 v0 11) ≤ v3 then (F_X1_reachedBits_J85 N nx44 v0 v1 v2 σ) else (if (jand (jshr v1 v3) 1) = 1 then ((F_X1_neighboursOf N v0 v3 σ).bind (fun q4 => F_X1_reachedBits_J79 N nx44 nx54 v0 (jor v1 q4) v2 v3 σ)) else (F_X1_reachedBits_J79 N nx44 nx54 v0 v1 v2 v3 σ))
def F_X1_reachedBits_B44 (N : Nat) (nx44 : (Int × Int) → Option (Int)) (v0 : Nat) (v1 : Int) (v2 : Int) (σ : Sto) : Option (Int) :=
  if (σ.1 v0 11) ≤ v2 then (some v1) else (loopK (fun q nx54 => F_X1_reachedBits_B54 N nx44 nx54 v0 v2 q.1 q.2 σ) N (v1, 0))
def F_X1_reachedBits_J42 (N : Nat)  (v0 : Nat) (v1 : Int) (σ : Sto) : Option (Int) :=
  loopK (fun q nx44 => F_X1_reachedBits_B44 N  nx44 v0 q.1 q.2 σ) N (v1, 0)
def F_X1_reachedBits_J36 (N : Nat) (nx4 : (Int × Int) → Option (Int)) (v0 : Nat) (v1 : Int) (v2 : Int) (σ : Sto) : Option (Int) :=
  nx4 (v1, (ja v2 1))
def F_X1_reachedBits_B4 (N : Nat) (nx4 : (Int × Int) → Option (Int)) (v0 : Nat) (v1 : Int) (v2 : Int) (σ : Sto) : Option (Int) :=
  if (σ.1 v0 11) ≤ v2 then (F_X1_reachedBits_J42 N  v0 v1 σ) else (inb v2 12 (if 0 ≤ (σ.1 (v0 + 1) v2) then (F_X1_reachedBits_J36 N nx4 v0 v1 v2 σ) else (if (σ.1 (v0 + 2) v2) ≤ 0 then (F_X1_reachedBits_J36 N nx4 v0 v1 v2 σ) else (F_X1_reachedBits_J36 N nx4 v0 (jor v1 (jshl 1 v2)) v2 σ))))
def F_X1_reachedBits (N : Nat) (v0 : Nat) (σ : Sto) : Option (Int) :=
  loopK (fun q nx4 => F_X1_reachedBits_B4 N  nx4 v0 q.1 q.2 σ) N (0, 0)
set_option maxHeartbeats 4000000 in
set_option maxRecDepth 100000 in
theorem c_X1_reachedBits (l : Launch) (g : Geo) (N : Nat) (v0 : Nat) (σ : Sto) (res : Int) (hk0 : knd v0 = (11, 14)) (ok : OK σ) (hF : F_X1_reachedBits N v0 σ = some res) : MtI l g yX1_reachedBits cX1_reachedBits 4 (some .int) rm_X1_reachedBits [vr g v0] σ res σ inR := by
  intro sz
  refine Met.ofAt (own := RX1) (QQ := fun z => QI g z res σ inR) (by decide +kernel) (Nat.le_of_ble_eq_true rfl) rfl ?_
  intro p e s m args below meth c C hr hlk
  show At p l e rm_X1_reachedBits s m args below meth c g 4 (MQ below (QI g s.heap.size res σ inR) args s 0 0 (AA g s.heap.size)) 0 [(0, vr g v0)] [] σ
  unfold F_X1_reachedBits at hF
  refine at_iconst C dX1_reachedBits_0 ?_
  refine at_istore_n C dX1_reachedBits_1 rfl (Nat.le_of_ble_eq_true rfl) rfl ?_
  refine at_iconst C dX1_reachedBits_2 ?_
  refine at_istore_n C dX1_reachedBits_3 rfl (Nat.le_of_ble_eq_true rfl) rfl ?_
  refine at_sub [2, 1, 0] rfl ?_
  refine loopK_ind (res := res) (P := fun (q : Int × Int) => inR q.1 → inR q.2 → At p l e rm_X1_reachedBits s m args below meth c g 4 (MQ below (QI g s.heap.size res σ inR) args s 0 0 (AA g s.heap.size)) 4 [(0, vr g v0), (1, vi q.1), (2, vi q.2)] [] σ) ?_ N _ hF (isB.r (Or.inl rfl)) (isB.r (Or.inl rfl))
  intro nx4 q ih4 hF
  obtain ⟨v1, v2⟩ := q
  intro h1 h2
  have hF : F_X1_reachedBits_B4 N  nx4 v0 v1 v2 σ = some res := hF
  unfold F_X1_reachedBits_B4 at hF
  have J42 : ∀ (v0 : Nat) (v1 : Int), knd v0 = (11, 14) → inR v1 → F_X1_reachedBits_J42 N  v0 v1 σ = some res → At p l e rm_X1_reachedBits s m args below meth c g 4 (MQ below (QI g s.heap.size res σ inR) args s 0 0 (AA g s.heap.size)) 42 [(0, vr g v0), (1, vi v1)] [] σ := by
    intro v0 v1 hk0 h1 hF
    unfold F_X1_reachedBits_J42 at hF
    refine at_iconst C dX1_reachedBits_42 ?_
    refine at_istore_n C dX1_reachedBits_43 rfl (Nat.le_of_ble_eq_true rfl) rfl ?_
    refine at_sub [1, 2, 0] rfl ?_
    refine loopK_ind (res := res) (P := fun (q : Int × Int) => inR q.1 → inR q.2 → At p l e rm_X1_reachedBits s m args below meth c g 4 (MQ below (QI g s.heap.size res σ inR) args s 0 0 (AA g s.heap.size)) 44 [(0, vr g v0), (1, vi q.1), (2, vi q.2)] [] σ) ?_ N _ hF h1 (isB.r (Or.inl rfl))
    intro nx44 q ih44 hF
    obtain ⟨v1, v2⟩ := q
    intro h1 h2
    have hF : F_X1_reachedBits_B44 N  nx44 v0 v1 v2 σ = some res := hF
    unfold F_X1_reachedBits_B44 at hF
    refine at_iload_n C 2 dX1_reachedBits_44 rfl rfl ?_
    refine at_aload_n C 0 dX1_reachedBits_45 rfl rfl ?_
    refine at_geti (jz := 11) C fw_1_46 hk0 rfl (Nat.le_of_ble_eq_true rfl) rfl rfl dX1_reachedBits_46 ?_
    refine at_icmp_ge C h2 (ok _ _) dX1_reachedBits_49 rfl (fun c1 => ?_) (fun c1 => ?_)
    · have hF := (if_pos c1).symm.trans hF
      refine at_iload_n C 1 dX1_reachedBits_91 rfl rfl ?_
      obtain rfl := Option.some.inj hF
      exact at_iret C hr hlk h1 ok dX1_reachedBits_92
    · have hF := (if_neg c1).symm.trans hF
      refine at_iconst C dX1_reachedBits_52 ?_
      refine at_istore_n C dX1_reachedBits_53 rfl (Nat.le_of_ble_eq_true rfl) rfl ?_
      refine at_sub [1, 2, 3, 0] rfl ?_
      refine loopK_ind (res := res) (P := fun (q : Int × Int) => inR q.1 → inR q.2 → At p l e rm_X1_reachedBits s m args below meth c g 4 (MQ below (QI g s.heap.size res σ inR) args s 0 0 (AA g s.heap.size)) 54 [(0, vr g v0), (1, vi q.1), (2, vi v2), (3, vi q.2)] [] σ) ?_ N _ hF h1 (isB.r (Or.inl rfl))
      intro nx54 q ih54 hF
      obtain ⟨v1, v3⟩ := q
      intro h1 h3
      have hF : F_X1_reachedBits_B54 N nx44 nx54 v0 v2 v1 v3 σ = some res := hF
      unfold F_X1_reachedBits_B54 at hF
      have J85 : ∀ (v1 : Int) (v2 : Int), inR v1 → inR v2 → F_X1_reachedBits_J85 N nx44 v0 v1 v2 σ = some res → At p l e rm_X1_reachedBits s m args below meth c g 4 (MQ below (QI g s.heap.size res σ inR) args s 0 0 (AA g s.heap.size)) 85 [(0, vr g v0), (1, vi v1), (2, vi v2)] [] σ := by
        intro v1 v2 h1 h2 hF
        unfold F_X1_reachedBits_J85 at hF
        refine at_iinc C 2 dX1_reachedBits_85 rfl (Nat.le_of_ble_eq_true rfl) rfl ?_
        refine at_goto C dX1_reachedBits_88 rfl ?_
        refine at_sub [1, 2, 0] rfl ?_
        exact ih44 _ hF h1 (ja_R _ _)
      refine at_iload_n C 3 dX1_reachedBits_54 rfl rfl ?_
      refine at_aload_n C 0 dX1_reachedBits_55 rfl rfl ?_
      refine at_geti (jz := 11) C fw_1_46 hk0 rfl (Nat.le_of_ble_eq_true rfl) rfl rfl dX1_reachedBits_56 ?_
      refine at_icmp_ge C h3 (ok _ _) dX1_reachedBits_59 rfl (fun c2 => ?_) (fun c2 => ?_)
      · have hF := (if_pos c2).symm.trans hF
        refine at_sub [0, 1, 2] rfl ?_
        exact J85 v1 v2 h1 h2 hF
      · have hF := (if_neg c2).symm.trans hF
        have J79 : ∀ (v1 : Int) (v3 : Int), inR v1 → inR v3 → F_X1_reachedBits_J79 N nx44 nx54 v0 v1 v2 v3 σ = some res → At p l e rm_X1_reachedBits s m args below meth c g 4 (MQ below (QI g s.heap.size res σ inR) args s 0 0 (AA g s.heap.size)) 79 [(0, vr g v0), (1, vi v1), (2, vi v2), (3, vi v3)] [] σ := by
          intro v1 v3 h1 h3 hF
          unfold F_X1_reachedBits_J79 at hF
          refine at_iinc C 3 dX1_reachedBits_79 rfl (Nat.le_of_ble_eq_true rfl) rfl ?_
          refine at_goto C dX1_reachedBits_82 rfl ?_
          refine at_sub [1, 2, 3, 0] rfl ?_
          exact ih54 _ hF h1 (ja_R _ _)
        refine at_iload_n C 1 dX1_reachedBits_62 rfl rfl ?_
        refine at_iload_n C 3 dX1_reachedBits_63 rfl rfl ?_
        refine at_ishr C dX1_reachedBits_64 ?_
        refine at_iconst C dX1_reachedBits_65 ?_
        refine at_iand C dX1_reachedBits_66 ?_
        refine at_iconst C dX1_reachedBits_67 ?_
        refine at_icmp_ne C (jand_R _ _) (isB.r (Or.inr rfl)) dX1_reachedBits_68 rfl (fun c3 => ?_) (fun c3 => ?_)
        · have hF := (if_neg c3).symm.trans hF
          exact J79 v1 v3 h1 h3 hF
        · have hF := (if_pos c3).symm.trans hF
          refine at_iload_n C 1 dX1_reachedBits_71 rfl rfl ?_
          refine at_aload_n C 0 dX1_reachedBits_72 rfl rfl ?_
          refine at_iload_n C 3 dX1_reachedBits_73 rfl rfl ?_
          obtain ⟨q4, eq4, hF⟩ := bind_some' hF
          refine at_callV (ci := 1) C (c_X1_neighboursOf l g N v0 v3 σ q4 hk0 h3 ok eq4) kv_X1_neighboursOf w1038 hk0 rfl rfl rfl rfl (Nat.le_of_ble_eq_true rfl) ⟨rfl, rfl, (Nat.le_of_ble_eq_true rfl), (Nat.le_of_ble_eq_true rfl)⟩ dX1_reachedBits_74 (fun tq4 okq4 => ?_)
          refine at_ior C dX1_reachedBits_77 ?_
          refine at_istore_n C dX1_reachedBits_78 rfl (Nat.le_of_ble_eq_true rfl) rfl ?_
          refine at_sub [1, 0, 2, 3] rfl ?_
          exact J79 (jor v1 q4) v3 (jor_R _ _) h3 hF
  refine at_iload_n C 2 dX1_reachedBits_4 rfl rfl ?_
  refine at_aload_n C 0 dX1_reachedBits_5 rfl rfl ?_
  refine at_geti (jz := 11) C fw_1_46 hk0 rfl (Nat.le_of_ble_eq_true rfl) rfl rfl dX1_reachedBits_6 ?_
  refine at_icmp_ge C h2 (ok _ _) dX1_reachedBits_9 rfl (fun c5 => ?_) (fun c5 => ?_)
  · have hF := (if_pos c5).symm.trans hF
    refine at_sub [0, 1] rfl ?_
    exact J42 v0 v1 hk0 h1 hF
  · have hF := (if_neg c5).symm.trans hF
    have J36 : ∀ (v1 : Int) (v2 : Int), inR v1 → inR v2 → F_X1_reachedBits_J36 N nx4 v0 v1 v2 σ = some res → At p l e rm_X1_reachedBits s m args below meth c g 4 (MQ below (QI g s.heap.size res σ inR) args s 0 0 (AA g s.heap.size)) 36 [(0, vr g v0), (1, vi v1), (2, vi v2)] [] σ := by
      intro v1 v2 h1 h2 hF
      unfold F_X1_reachedBits_J36 at hF
      refine at_iinc C 2 dX1_reachedBits_36 rfl (Nat.le_of_ble_eq_true rfl) rfl ?_
      refine at_goto C dX1_reachedBits_39 rfl ?_
      refine at_sub [1, 2, 0] rfl ?_
      exact ih4 _ hF h1 (ja_R _ _)
    refine at_aload_n C 0 dX1_reachedBits_12 rfl rfl ?_
    refine at_getr C 1 fw_1_9 hk0 rfl (Nat.le_of_ble_eq_true rfl) rfl rfl dX1_reachedBits_13 ?_
    refine at_iload_n C 2 dX1_reachedBits_16 rfl rfl ?_
    obtain ⟨b6, hF⟩ := inb_some hF
    refine at_iaload C (kf1_0 hk0) b6 dX1_reachedBits_17 ?_
    refine at_if_ge C (ok _ _) dX1_reachedBits_18 rfl (fun c7 => ?_) (fun c7 => ?_)
    · have hF := (if_pos c7).symm.trans hF
      exact J36 v1 v2 h1 h2 hF
    · have hF := (if_neg c7).symm.trans hF
      refine at_aload_n C 0 dX1_reachedBits_21 rfl rfl ?_
      refine at_getr C 2 fw_1_15 hk0 rfl (Nat.le_of_ble_eq_true rfl) rfl rfl dX1_reachedBits_22 ?_
      refine at_iload_n C 2 dX1_reachedBits_25 rfl rfl ?_
      refine at_iaload C (kf1_1 hk0) b6 dX1_reachedBits_26 ?_
      refine at_if_le C (ok _ _) dX1_reachedBits_27 rfl (fun c8 => ?_) (fun c8 => ?_)
      · have hF := (if_pos c8).symm.trans hF
        exact J36 v1 v2 h1 h2 hF
      · have hF := (if_neg c8).symm.trans hF
        refine at_iload_n C 1 dX1_reachedBits_30 rfl rfl ?_
        refine at_iconst C dX1_reachedBits_31 ?_
        refine at_iload_n C 2 dX1_reachedBits_32 rfl rfl ?_
        refine at_ishl C dX1_reachedBits_33 ?_
        refine at_ior C dX1_reachedBits_34 ?_
        refine at_istore_n C dX1_reachedBits_35 rfl (Nat.le_of_ble_eq_true rfl) rfl ?_
        refine at_sub [1, 0, 2] rfl ?_
        exact J36 (jor v1 (jshl 1 v2)) v2 (jor_R _ _) h2 hF
abbrev rm_X2_clear : Room := { frames := 0, cells := 0, slots := 0, locals := 0 }
def F_X2_clear (N : Nat)  (σ : Sto) : Option (Sto) :=
  some (upI σ 33 1 0)
set_option maxHeartbeats 4000000 in
set_option maxRecDepth 100000 in
theorem c_X2_clear (l : Launch) (g : Geo) (N : Nat)  (σ : Sto) (res : Sto)  (ok : OK σ) (hF : F_X2_clear N  σ = some res) : MtV l g yX2_clear cX2_clear 1 none rm_X2_clear [vr g 33] σ res := by
  intro sz
  refine Met.ofAt (own := RX2) (QQ := fun z => QV g z res) (by decide +kernel) (Nat.le_of_ble_eq_true rfl) rfl ?_
  intro p e s m args below meth c C hr hlk
  show At p l e rm_X2_clear s m args below meth c g 1 (MQ below (QV g s.heap.size res) args s 0 0 (AA g s.heap.size)) 0 [(0, vr g 33)] [] σ
  unfold F_X2_clear at hF
  refine at_aload_n C 0 dX2_clear_0 rfl rfl ?_
  refine at_iconst C dX2_clear_1 ?_
  refine at_puti (jz := 1) C fu_2_15 kd33 rfl (Nat.le_of_ble_eq_true rfl) rfl rfl dX2_clear_2 ?_
  obtain rfl := Option.some.inj hF
  exact at_vret C hr hlk (OK_up ok (isB.r (Or.inl rfl))) dX2_clear_5
abbrev rm_X2_push : Room := { frames := 1, cells := 0, slots := 0, locals := 48 }
def F_X2_push_J30 (N : Nat)  (v1 : Int) (v2 : Int) (v3 : Int) (v4 : Int) (v5 : Int) (σ : Sto) : Option (Sto) :=
  inb (jm (σ.1 33 1) 5) 100 (inb (ja (jm (σ.1 33 1) 5) 1) 100 (inb (ja (jm (σ.1 33 1) 5) 2) 100 (inb (ja (jm (σ.1 33 1) 5) 3) 100 (inb (ja (jm (σ.1 33 1) 5) 4) 100 (some (upI (upI (upI (upI (upI (upI σ 34 (jm (σ.1 33 1) 5) v1) 34 (ja (jm (σ.1 33 1) 5) 1) v2) 34 (ja (jm (σ.1 33 1) 5) 2) v3) 34 (ja (jm (σ.1 33 1) 5) 3) v4) 34 (ja (jm (σ.1 33 1) 5) 4) v5) 33 1 (ja ((upI (upI (upI (upI (upI σ 34 (jm (σ.1 33 1) 5) v1) 34 (ja (jm (σ.1 33 1) 5) 1) v2) 34 (ja (jm (σ.1 33 1) 5) 2) v3) 34 (ja (jm (σ.1 33 1) 5) 3) v4) 34 (ja (jm (σ.1 33 1) 5) 4) v5).1 33 1) 1)))))))
def F_X2_push (N : Nat) (v1 : Int) (v2 : Int) (v3 : Int) (v4 : Int) (v5 : Int) (σ : Sto) : Option (Sto) :=
  if (σ.1 33 1) < 20 then (F_X2_push_J30 N  v1 v2 v3 v4 v5 σ) else (grd ((0 : Int) ≤ 5 ∧ (0 : Int) ≤ 0 ∧ (0 : Int) ≤ 95 ∧ (5 : Int) + 95 ≤ 100 ∧ (0 : Int) + 95 ≤ 100) inferInstance (F_X2_push_J30 N  v1 v2 v3 v4 v5 (upI (cpI σ 34 5 34 0 95) 33 1 19)))
set_option maxHeartbeats 4000000 in
set_option maxRecDepth 100000 in
theorem c_X2_push (l : Launch) (g : Geo) (N : Nat) (v1 : Int) (v2 : Int) (v3 : Int) (v4 : Int) (v5 : Int) (σ : Sto) (res : Sto) (h1 : inR v1) (h2 : inR v2) (h3 : inR v3) (h4 : inR v4) (h5 : inR v5) (ok : OK σ) (hF : F_X2_push N v1 v2 v3 v4 v5 σ = some res) : MtV l g yX2_push cX2_push 7 none rm_X2_push [vr g 33, vi v1, vi v2, vi v3, vi v4, vi v5] σ res := by
  intro sz
  refine Met.ofAt (own := RX2) (QQ := fun z => QV g z res) (by decide +kernel) (Nat.le_of_ble_eq_true rfl) rfl ?_
  intro p e s m args below meth c C hr hlk
  show At p l e rm_X2_push s m args below meth c g 7 (MQ below (QV g s.heap.size res) args s 0 0 (AA g s.heap.size)) 0 [(0, vr g 33), (1, vi v1), (2, vi v2), (3, vi v3), (4, vi v4), (5, vi v5)] [] σ
  unfold F_X2_push at hF
  have J30 : ∀ (v1 : Int) (v2 : Int) (v3 : Int) (v4 : Int) (v5 : Int) (σ : Sto), inR v1 → inR v2 → inR v3 → inR v4 → inR v5 → OK σ → F_X2_push_J30 N  v1 v2 v3 v4 v5 σ = some res → At p l e rm_X2_push s m args below meth c g 7 (MQ below (QV g s.heap.size res) args s 0 0 (AA g s.heap.size)) 30 [(0, vr g 33), (1, vi v1), (2, vi v2), (3, vi v3), (4, vi v4), (5, vi v5)] [] σ := by
    intro v1 v2 v3 v4 v5 σ h1 h2 h3 h4 h5 ok hF
    unfold F_X2_push_J30 at hF
    refine at_aload_n C 0 dX2_push_30 rfl rfl ?_
    refine at_geti (jz := 1) C fw_2_15 kd33 rfl (Nat.le_of_ble_eq_true rfl) rfl rfl dX2_push_31 ?_
    refine at_iconst C dX2_push_34 ?_
    refine at_imul C dX2_push_35 ?_
    refine at_istore C dX2_push_36 (Nat.le_of_ble_eq_true rfl) rfl ?_
    refine at_aload_n C 1 dX2_push_38 rfl rfl ?_
    refine at_getr (k' := 34) C 1 fw_2_11 kd33 rfl (Nat.le_of_ble_eq_true rfl) rfl rfl dX2_push_39 ?_
    refine at_iload C 0 dX2_push_42 rfl ?_
    refine at_iload_n C 2 dX2_push_44 rfl rfl ?_
    obtain ⟨b1, hF⟩ := inb_some hF
    refine at_iastore C kd34 b1 dX2_push_45 ?_
    refine at_aload_n C 1 dX2_push_46 rfl rfl ?_
    refine at_getr (k' := 34) C 1 fw_2_11 kd33 rfl (Nat.le_of_ble_eq_true rfl) rfl rfl dX2_push_47 ?_
    refine at_iload C 0 dX2_push_50 rfl ?_
    refine at_iconst C dX2_push_52 ?_
    refine at_iadd C dX2_push_53 ?_
    refine at_iload_n C 3 dX2_push_54 rfl rfl ?_
    obtain ⟨b2, hF⟩ := inb_some hF
    refine at_iastore C kd34 b2 dX2_push_55 ?_
    refine at_aload_n C 1 dX2_push_56 rfl rfl ?_
    refine at_getr (k' := 34) C 1 fw_2_11 kd33 rfl (Nat.le_of_ble_eq_true rfl) rfl rfl dX2_push_57 ?_
    refine at_iload C 0 dX2_push_60 rfl ?_
    refine at_iconst C dX2_push_62 ?_
    refine at_iadd C dX2_push_63 ?_
    refine at_iload_n C 4 dX2_push_64 rfl rfl ?_
    obtain ⟨b3, hF⟩ := inb_some hF
    refine at_iastore C kd34 b3 dX2_push_65 ?_
    refine at_aload_n C 1 dX2_push_66 rfl rfl ?_
    refine at_getr (k' := 34) C 1 fw_2_11 kd33 rfl (Nat.le_of_ble_eq_true rfl) rfl rfl dX2_push_67 ?_
    refine at_iload C 0 dX2_push_70 rfl ?_
    refine at_iconst C dX2_push_72 ?_
    refine at_iadd C dX2_push_73 ?_
    refine at_iload C 5 dX2_push_74 rfl ?_
    obtain ⟨b4, hF⟩ := inb_some hF
    refine at_iastore C kd34 b4 dX2_push_76 ?_
    refine at_aload_n C 1 dX2_push_77 rfl rfl ?_
    refine at_getr (k' := 34) C 1 fw_2_11 kd33 rfl (Nat.le_of_ble_eq_true rfl) rfl rfl dX2_push_78 ?_
    refine at_iload C 0 dX2_push_81 rfl ?_
    refine at_iconst C dX2_push_83 ?_
    refine at_iadd C dX2_push_84 ?_
    refine at_iload C 6 dX2_push_85 rfl ?_
    obtain ⟨b5, hF⟩ := inb_some hF
    refine at_iastore C kd34 b5 dX2_push_87 ?_
    refine at_aload_n C 1 dX2_push_88 rfl rfl ?_
    refine at_dup C dX2_push_89 rfl ?_
    refine at_geti (jz := 1) C fw_2_15 kd33 rfl (Nat.le_of_ble_eq_true rfl) rfl rfl dX2_push_90 ?_
    refine at_iconst C dX2_push_93 ?_
    refine at_iadd C dX2_push_94 ?_
    refine at_puti (jz := 1) C fu_2_15 kd33 rfl (Nat.le_of_ble_eq_true rfl) rfl rfl dX2_push_95 ?_
    obtain rfl := Option.some.inj hF
    exact at_vret C hr hlk (OK_up (OK_up (OK_up (OK_up (OK_up (OK_up ok h1) h2) h3) h4) h5) (ja_R _ _)) dX2_push_98
  refine at_aload_n C 0 dX2_push_0 rfl rfl ?_
  refine at_geti (jz := 1) C fw_2_15 kd33 rfl (Nat.le_of_ble_eq_true rfl) rfl rfl dX2_push_1 ?_
  refine at_bipush C dX2_push_4 (by decide) ?_
  refine at_icmp_lt C (ok _ _) ⟨by decide, by decide⟩ dX2_push_6 rfl (fun c6 => ?_) (fun c6 => ?_)
  · have hF := (if_pos c6).symm.trans hF
    exact J30 v1 v2 v3 v4 v5 σ h1 h2 h3 h4 h5 ok hF
  · have hF := (if_neg c6).symm.trans hF
    refine at_aload_n C 0 dX2_push_9 rfl rfl ?_
    refine at_getr (k' := 34) C 1 fw_2_11 kd33 rfl (Nat.le_of_ble_eq_true rfl) rfl rfl dX2_push_10 ?_
    refine at_iconst C dX2_push_13 ?_
    refine at_aload_n C 0 dX2_push_14 rfl rfl ?_
    refine at_getr (k' := 34) C 1 fw_2_11 kd33 rfl (Nat.le_of_ble_eq_true rfl) rfl rfl dX2_push_15 ?_
    refine at_iconst C dX2_push_18 ?_
    refine at_bipush C dX2_push_19 (by decide) ?_
    obtain ⟨y7, hF⟩ := grd_some hF
    refine at_copy C kc w887 kd34 kd34 y7 ⟨(Nat.le_of_ble_eq_true rfl), (Nat.le_of_ble_eq_true rfl)⟩ dX2_push_21 ?_
    refine at_aload_n C 0 dX2_push_24 rfl rfl ?_
    refine at_bipush C dX2_push_25 (by decide) ?_
    refine at_puti (jz := 1) C fu_2_15 kd33 rfl (Nat.le_of_ble_eq_true rfl) rfl rfl dX2_push_27 ?_
    exact J30 v1 v2 v3 v4 v5 (upI (cpI σ 34 5 34 0 95) 33 1 19) h1 h2 h3 h4 h5 (OK_up (OK_cp ok) ⟨by decide, by decide⟩) hF
abbrev rm_X2_pop : Room := { frames := 1, cells := 0, slots := 0, locals := 21 }
def F_X2_pop (N : Nat)  (σ : Sto) : Option (Int × Sto) :=
  some ((jm ((upI σ 33 1 (jmax 0 (js (σ.1 33 1) 1))).1 33 1) 5), (upI σ 33 1 (jmax 0 (js (σ.1 33 1) 1))))
set_option maxHeartbeats 4000000 in
set_option maxRecDepth 100000 in
theorem c_X2_pop (l : Launch) (g : Geo) (N : Nat)  (σ : Sto) (res : Int × Sto)  (ok : OK σ) (hF : F_X2_pop N  σ = some res) : MtI l g yX2_pop cX2_pop 1 (some .int) rm_X2_pop [vr g 33] σ res.1 res.2 inR := by
  intro sz
  refine Met.ofAt (own := RX2) (QQ := fun z => QI g z res.1 res.2 inR) (by decide +kernel) (Nat.le_of_ble_eq_true rfl) rfl ?_
  intro p e s m args below meth c C hr hlk
  show At p l e rm_X2_pop s m args below meth c g 1 (MQ below (QI g s.heap.size res.1 res.2 inR) args s 0 0 (AA g s.heap.size)) 0 [(0, vr g 33)] [] σ
  unfold F_X2_pop at hF
  refine at_aload_n C 0 dX2_pop_0 rfl rfl ?_
  refine at_iconst C dX2_pop_1 ?_
  refine at_aload_n C 0 dX2_pop_2 rfl rfl ?_
  refine at_geti (jz := 1) C fw_2_15 kd33 rfl (Nat.le_of_ble_eq_true rfl) rfl rfl dX2_pop_3 ?_
  refine at_iconst C dX2_pop_6 ?_
  refine at_isub C dX2_pop_7 ?_
  refine at_mmax C km_max w1193 (isB.r (Or.inl rfl)) (js_R _ _) ⟨(Nat.le_of_ble_eq_true rfl), (Nat.le_of_ble_eq_true rfl)⟩ dX2_pop_8 ?_
  refine at_puti (jz := 1) C fu_2_15 kd33 rfl (Nat.le_of_ble_eq_true rfl) rfl rfl dX2_pop_11 ?_
  refine at_aload_n C 0 dX2_pop_14 rfl rfl ?_
  refine at_geti (jz := 1) C fw_2_15 kd33 rfl (Nat.le_of_ble_eq_true rfl) rfl rfl dX2_pop_15 ?_
  refine at_iconst C dX2_pop_18 ?_
  refine at_imul C dX2_pop_19 ?_
  obtain rfl := Option.some.inj hF
  exact at_iret C hr hlk (jm_R _ _) (OK_up ok (jmax_R (isB.r (Or.inl rfl)) (js_R _ _))) dX2_pop_20
abbrev rm_X4_addStart : Room := { frames := 0, cells := 0, slots := 0, locals := 0 }
def F_X4_addStart_J85 (N : Nat)  (v0 : Nat) (v1 : Int) (v2 : Int) (σ : Sto) : Option (Sto) :=
  inb v2 25 (some (upI (upI σ (v0 + 1) v2 v1) v0 2 (ja ((upI σ (v0 + 1) v2 v1).1 v0 2) 1)))
def F_X4_addStart_B51 (N : Nat) (nx51 : (Int × Sto) → Option (Sto)) (v0 : Nat) (v1 : Int) (v2 : Int) (v3 : Int) (σ : Sto) : Option (Sto) :=
  if v3 ≤ v2 then (F_X4_addStart_J85 N  v0 v1 v2 σ) else (if 25 ≤ v3 then (F_X4_addStart_J85 N  v0 v1 v2 σ) else (inb (js v3 1) 25 (inb v3 25 (nx51 ((ja v3 (-1)), (upI σ (v0 + 1) v3 (σ.1 (v0 + 1) (js v3 1))))))))
def F_X4_addStart_J46 (N : Nat)  (v0 : Nat) (v1 : Int) (v2 : Int) (σ : Sto) : Option (Sto) :=
  loopK (fun q nx51 => F_X4_addStart_B51 N  nx51 v0 v1 v2 q.1 q.2) N ((σ.1 v0 2), σ)
def F_X4_addStart_B10 (N : Nat) (nx10 : (Int × Int) → Option (Sto)) (v0 : Nat) (v1 : Int) (v2 : Int) (v3 : Int) (σ : Sto) : Option (Sto) :=
  if v3 ≤ 0 then (F_X4_addStart_J46 N  v0 v1 v2 σ) else (inb (js v2 1) 25 (if (σ.1 (v0 + 1) (js v2 1)) < v1 then (F_X4_addStart_J46 N  v0 v1 v2 σ) else (inb (ja v2 (-1)) 25 (if (σ.1 (v0 + 1) (ja v2 (-1))) = v1 then (some σ) else (nx10 ((ja v2 (-1)), (ja v3 (-1))))))))
def F_X4_addStart (N : Nat) (v0 : Nat) (v1 : Int) (σ : Sto) : Option (Sto) :=
  loopK (fun q nx10 => F_X4_addStart_B10 N  nx10 v0 v1 q.1 q.2 σ) N ((σ.1 v0 2), (σ.1 v0 2))
set_option maxHeartbeats 4000000 in
set_option maxRecDepth 100000 in
theorem c_X4_addStart (l : Launch) (g : Geo) (N : Nat) (v0 : Nat) (v1 : Int) (σ : Sto) (res : Sto) (hk0 : knd v0 = (14, 3)) (h1 : inR v1) (ok : OK σ) (hF : F_X4_addStart N v0 v1 σ = some res) : MtV l g yX4_addStart cX4_addStart 4 none rm_X4_addStart [vr g v0, vi v1] σ res := by
  intro sz
  refine Met.ofAt (own := RX4) (QQ := fun z => QV g z res) (by decide +kernel) (Nat.le_of_ble_eq_true rfl) rfl ?_
  intro p e s m args below meth c C hr hlk
  show At p l e rm_X4_addStart s m args below meth c g 4 (MQ below (QV g s.heap.size res) args s 0 0 (AA g s.heap.size)) 0 [(0, vr g v0), (1, vi v1)] [] σ
  unfold F_X4_addStart at hF
  refine at_aload_n C 0 dX4_addStart_0 rfl rfl ?_
  refine at_geti (jz := 2) C fw_4_18 hk0 rfl (Nat.le_of_ble_eq_true rfl) rfl rfl dX4_addStart_1 ?_
  refine at_istore_n C dX4_addStart_4 rfl (Nat.le_of_ble_eq_true rfl) rfl ?_
  refine at_aload_n C 1 dX4_addStart_5 rfl rfl ?_
  refine at_geti (jz := 2) C fw_4_18 hk0 rfl (Nat.le_of_ble_eq_true rfl) rfl rfl dX4_addStart_6 ?_
  refine at_istore_n C dX4_addStart_9 rfl (Nat.le_of_ble_eq_true rfl) rfl ?_
  refine at_sub [2, 3, 1, 0] rfl ?_
  refine loopK_ind (res := res) (P := fun (q : Int × Int) => inR q.1 → inR q.2 → At p l e rm_X4_addStart s m args below meth c g 4 (MQ below (QV g s.heap.size res) args s 0 0 (AA g s.heap.size)) 10 [(0, vr g v0), (1, vi v1), (2, vi q.1), (3, vi q.2)] [] σ) ?_ N _ hF (ok _ _) (ok _ _)
  intro nx10 q ih10 hF
  obtain ⟨v2, v3⟩ := q
  intro h2 h3
  have hF : F_X4_addStart_B10 N  nx10 v0 v1 v2 v3 σ = some res := hF
  unfold F_X4_addStart_B10 at hF
  have J46 : ∀ (v0 : Nat) (v1 : Int) (v2 : Int) (σ : Sto), knd v0 = (14, 3) → inR v1 → inR v2 → OK σ → F_X4_addStart_J46 N  v0 v1 v2 σ = some res → At p l e rm_X4_addStart s m args below meth c g 4 (MQ below (QV g s.heap.size res) args s 0 0 (AA g s.heap.size)) 46 [(0, vr g v0), (1, vi v1), (2, vi v2)] [] σ := by
    intro v0 v1 v2 σ hk0 h1 h2 ok hF
    unfold F_X4_addStart_J46 at hF
    refine at_aload_n C 0 dX4_addStart_46 rfl rfl ?_
    refine at_geti (jz := 2) C fw_4_18 hk0 rfl (Nat.le_of_ble_eq_true rfl) rfl rfl dX4_addStart_47 ?_
    refine at_istore_n C dX4_addStart_50 rfl (Nat.le_of_ble_eq_true rfl) rfl ?_
    refine at_sub [1, 2, 3, 0] rfl ?_
    refine loopK_ind (res := res) (P := fun (q : Int × Sto) => inR q.1 → OK q.2 → At p l e rm_X4_addStart s m args below meth c g 4 (MQ below (QV g s.heap.size res) args s 0 0 (AA g s.heap.size)) 51 [(0, vr g v0), (1, vi v1), (2, vi v2), (3, vi q.1)] [] q.2) ?_ N _ hF (ok _ _) ok
    intro nx51 q ih51 hF
    obtain ⟨v3, σ⟩ := q
    intro h3 ok
    have hF : F_X4_addStart_B51 N  nx51 v0 v1 v2 v3 σ = some res := hF
    unfold F_X4_addStart_B51 at hF
    have J85 : ∀ (v0 : Nat) (v1 : Int) (v2 : Int) (σ : Sto), knd v0 = (14, 3) → inR v1 → inR v2 → OK σ → F_X4_addStart_J85 N  v0 v1 v2 σ = some res → At p l e rm_X4_addStart s m args below meth c g 4 (MQ below (QV g s.heap.size res) args s 0 0 (AA g s.heap.size)) 85 [(0, vr g v0), (1, vi v1), (2, vi v2)] [] σ := by
      intro v0 v1 v2 σ hk0 h1 h2 ok hF
      unfold F_X4_addStart_J85 at hF
      refine at_aload_n C 0 dX4_addStart_85 rfl rfl ?_
      refine at_getr C 1 fw_4_9 hk0 rfl (Nat.le_of_ble_eq_true rfl) rfl rfl dX4_addStart_86 ?_
      refine at_iload_n C 2 dX4_addStart_89 rfl rfl ?_
      refine at_iload_n C 1 dX4_addStart_90 rfl rfl ?_
      obtain ⟨b1, hF⟩ := inb_some hF
      refine at_iastore C (kf4_0 hk0) b1 dX4_addStart_91 ?_
      refine at_aload_n C 0 dX4_addStart_92 rfl rfl ?_
      refine at_dup C dX4_addStart_93 rfl ?_
      refine at_geti (jz := 2) C fw_4_18 hk0 rfl (Nat.le_of_ble_eq_true rfl) rfl rfl dX4_addStart_94 ?_
      refine at_iconst C dX4_addStart_97 ?_
      refine at_iadd C dX4_addStart_98 ?_
      refine at_puti (jz := 2) C fu_4_18 hk0 rfl (Nat.le_of_ble_eq_true rfl) rfl rfl dX4_addStart_99 ?_
      obtain rfl := Option.some.inj hF
      exact at_vret C hr hlk (OK_up (OK_up ok h1) (ja_R _ _)) dX4_addStart_102
    refine at_iload_n C 3 dX4_addStart_51 rfl rfl ?_
    refine at_iload_n C 2 dX4_addStart_52 rfl rfl ?_
    refine at_icmp_le C h3 h2 dX4_addStart_53 rfl (fun c2 => ?_) (fun c2 => ?_)
    · have hF := (if_pos c2).symm.trans hF
      refine at_sub [0, 1, 2] rfl ?_
      exact J85 v0 v1 v2 σ hk0 h1 h2 ok hF
    · have hF := (if_neg c2).symm.trans hF
      refine at_iload_n C 3 dX4_addStart_56 rfl rfl ?_
      refine at_aload_n C 0 dX4_addStart_57 rfl rfl ?_
      refine at_getr C 1 fw_4_9 hk0 rfl (Nat.le_of_ble_eq_true rfl) rfl rfl dX4_addStart_58 ?_
      refine at_alen (nz := 25) C (kf4_0 hk0) rfl dX4_addStart_61 ?_
      refine at_icmp_ge C h3 ⟨by decide, by decide⟩ dX4_addStart_62 rfl (fun c3 => ?_) (fun c3 => ?_)
      · have hF := (if_pos c3).symm.trans hF
        refine at_sub [0, 1, 2] rfl ?_
        exact J85 v0 v1 v2 σ hk0 h1 h2 ok hF
      · have hF := (if_neg c3).symm.trans hF
        refine at_aload_n C 0 dX4_addStart_65 rfl rfl ?_
        refine at_getr C 1 fw_4_9 hk0 rfl (Nat.le_of_ble_eq_true rfl) rfl rfl dX4_addStart_66 ?_
        refine at_iload_n C 3 dX4_addStart_69 rfl rfl ?_
        refine at_aload_n C 0 dX4_addStart_70 rfl rfl ?_
        refine at_getr C 1 fw_4_9 hk0 rfl (Nat.le_of_ble_eq_true rfl) rfl rfl dX4_addStart_71 ?_
        refine at_iload_n C 3 dX4_addStart_74 rfl rfl ?_
        refine at_iconst C dX4_addStart_75 ?_
        refine at_isub C dX4_addStart_76 ?_
        obtain ⟨b4, hF⟩ := inb_some hF
        refine at_iaload C (kf4_0 hk0) b4 dX4_addStart_77 ?_
        obtain ⟨b5, hF⟩ := inb_some hF
        refine at_iastore C (kf4_0 hk0) b5 dX4_addStart_78 ?_
        refine at_iinc C 3 dX4_addStart_79 rfl (Nat.le_of_ble_eq_true rfl) rfl ?_
        refine at_goto C dX4_addStart_82 rfl ?_
        refine at_sub [1, 2, 3, 0] rfl ?_
        exact ih51 _ hF (ja_R _ _) (OK_up ok (ok _ _))
  refine at_iload_n C 3 dX4_addStart_10 rfl rfl ?_
  refine at_if_le C h3 dX4_addStart_11 rfl (fun c6 => ?_) (fun c6 => ?_)
  · have hF := (if_pos c6).symm.trans hF
    refine at_sub [0, 1, 2] rfl ?_
    exact J46 v0 v1 v2 σ hk0 h1 h2 ok hF
  · have hF := (if_neg c6).symm.trans hF
    refine at_aload_n C 0 dX4_addStart_14 rfl rfl ?_
    refine at_getr C 1 fw_4_9 hk0 rfl (Nat.le_of_ble_eq_true rfl) rfl rfl dX4_addStart_15 ?_
    refine at_iload_n C 2 dX4_addStart_18 rfl rfl ?_
    refine at_iconst C dX4_addStart_19 ?_
    refine at_isub C dX4_addStart_20 ?_
    obtain ⟨b7, hF⟩ := inb_some hF
    refine at_iaload C (kf4_0 hk0) b7 dX4_addStart_21 ?_
    refine at_iload_n C 1 dX4_addStart_22 rfl rfl ?_
    refine at_icmp_lt C (ok _ _) h1 dX4_addStart_23 rfl (fun c8 => ?_) (fun c8 => ?_)
    · have hF := (if_pos c8).symm.trans hF
      refine at_sub [0, 1, 2] rfl ?_
      exact J46 v0 v1 v2 σ hk0 h1 h2 ok hF
    · have hF := (if_neg c8).symm.trans hF
      refine at_iinc C 2 dX4_addStart_26 rfl (Nat.le_of_ble_eq_true rfl) rfl ?_
      refine at_aload_n C 1 dX4_addStart_29 rfl rfl ?_
      refine at_getr C 1 fw_4_9 hk0 rfl (Nat.le_of_ble_eq_true rfl) rfl rfl dX4_addStart_30 ?_
      refine at_iload_n C 0 dX4_addStart_33 rfl rfl ?_
      obtain ⟨b9, hF⟩ := inb_some hF
      refine at_iaload C (kf4_0 hk0) b9 dX4_addStart_34 ?_
      refine at_iload_n C 2 dX4_addStart_35 rfl rfl ?_
      refine at_icmp_ne C (ok _ _) h1 dX4_addStart_36 rfl (fun c10 => ?_) (fun c10 => ?_)
      · have hF := (if_neg c10).symm.trans hF
        refine at_iinc C 3 dX4_addStart_40 rfl (Nat.le_of_ble_eq_true rfl) rfl ?_
        refine at_goto C dX4_addStart_43 rfl ?_
        refine at_sub [2, 3, 1, 0] rfl ?_
        exact ih10 _ hF (ja_R _ _) (ja_R _ _)
      · have hF := (if_pos c10).symm.trans hF
        obtain rfl := Option.some.inj hF
        exact at_vret C hr hlk ok dX4_addStart_39
abbrev rm_X10_loadPercents : Room := { frames := 0, cells := 0, slots := 0, locals := 0 }
def F_X10_loadPercents_J142 (N : Nat) (nx64 : (Int × Sto) → Option (Sto)) (v1 : Nat) (v2 : Int) (v3 : Int) (σ : Sto) : Option (Sto) :=
  nx64 ((ja v3 1), σ)
def F_X10_loadPercents_B64 (N : Nat) (nx64 : (Int × Sto) → Option (Sto)) (v1 : Nat) (v2 : Int) (v3 : Int) (σ : Sto) : Option (Sto) :=
  if (σ.1 v1 4) ≤ v3 then (some σ) else (inb v3 24 (if v2 < (σ.1 (v1 + 4) v3) then (F_X10_loadPercents_J142 N nx64 v1 v2 v3 σ) else (inb (ja (jm (σ.1 (v1 + 1) v3) 8) (σ.1 (v1 + 2) v3)) 64 (if (σ.1 (v1 + 4) v3) < (σ.1 48 (ja (jm (σ.1 (v1 + 1) v3) 8) (σ.1 (v1 + 2) v3))) then (F_X10_loadPercents_J142 N nx64 v1 v2 v3 σ) else (F_X10_loadPercents_J142 N nx64 v1 v2 v3 (upI (upI σ 48 (ja (jm (σ.1 (v1 + 1) v3) 8) (σ.1 (v1 + 2) v3)) (σ.1 (v1 + 4) v3)) 47 (ja (jm (σ.1 (v1 + 1) v3) 8) (σ.1 (v1 + 2) v3)) ((upI σ 48 (ja (jm (σ.1 (v1 + 1) v3) 8) (σ.1 (v1 + 2) v3)) (σ.1 (v1 + 4) v3)).1 (v1 + 3) v3)))))))
def F_X10_loadPercents_J62 (N : Nat)  (v1 : Nat) (v2 : Int) (σ : Sto) : Option (Sto) :=
  loopK (fun q nx64 => F_X10_loadPercents_B64 N  nx64 v1 v2 q.1 q.2) N (0, σ)
def F_X10_loadPercents_J56 (N : Nat) (nx2 : (Int × Sto) → Option (Sto)) (v1 : Nat) (v2 : Int) (v3 : Int) (σ : Sto) : Option (Sto) :=
  nx2 ((ja v3 1), σ)
def F_X10_loadPercents_B15 (N : Nat) (nx2 : (Int × Sto) → Option (Sto)) (nx15 : (Int × Sto) → Option (Sto)) (v1 : Nat) (v2 : Int) (v3 : Int) (v4 : Int) (σ : Sto) : Option (Sto) :=
  if (σ.1 46 5) ≤ v4 then (F_X10_loadPercents_J56 N nx2 v1 v2 v3 σ) else (inb (ja (jm v3 8) v4) 64 (nx15 ((ja v4 1), (upI (upI σ 47 (ja (jm v3 8) v4) 0) 48 (ja (jm v3 8) v4) (-1)))))
def F_X10_loadPercents_B2 (N : Nat) (nx2 : (Int × Sto) → Option (Sto)) (v1 : Nat) (v2 : Int) (v3 : Int) (σ : Sto) : Option (Sto) :=
  if (σ.1 46 5) ≤ v3 then (F_X10_loadPercents_J62 N  v1 v2 σ) else (loopK (fun q nx15 => F_X10_loadPercents_B15 N nx2 nx15 v1 v2 v3 q.1 q.2) N ((ja v3 1), σ))
def F_X10_loadPercents (N : Nat) (v1 : Nat) (v2 : Int) (σ : Sto) : Option (Sto) :=
  loopK (fun q nx2 => F_X10_loadPercents_B2 N  nx2 v1 v2 q.1 q.2) N (0, σ)
set_option maxHeartbeats 4000000 in
set_option maxRecDepth 100000 in
theorem c_X10_loadPercents (l : Launch) (g : Geo) (N : Nat) (v1 : Nat) (v2 : Int) (σ : Sto) (res : Sto) (hk1 : knd v1 = (17, 5)) (h2 : inR v2) (ok : OK σ) (hF : F_X10_loadPercents N v1 v2 σ = some res) : MtV l g yX10_loadPercents cX10_loadPercents 5 none rm_X10_loadPercents [vr g 46, vr g v1, vi v2] σ res := by
  intro sz
  refine Met.ofAt (own := RX10) (QQ := fun z => QV g z res) (by decide +kernel) (Nat.le_of_ble_eq_true rfl) rfl ?_
  intro p e s m args below meth c C hr hlk
  show At p l e rm_X10_loadPercents s m args below meth c g 5 (MQ below (QV g s.heap.size res) args s 0 0 (AA g s.heap.size)) 0 [(0, vr g 46), (1, vr g v1), (2, vi v2)] [] σ
  unfold F_X10_loadPercents at hF
  refine at_iconst C dX10_loadPercents_0 ?_
  refine at_istore_n C dX10_loadPercents_1 rfl (Nat.le_of_ble_eq_true rfl) rfl ?_
  refine at_sub [1, 2, 3, 0] rfl ?_
  refine loopK_ind (res := res) (P := fun (q : Int × Sto) => inR q.1 → OK q.2 → At p l e rm_X10_loadPercents s m args below meth c g 5 (MQ below (QV g s.heap.size res) args s 0 0 (AA g s.heap.size)) 2 [(0, vr g 46), (1, vr g v1), (2, vi v2), (3, vi q.1)] [] q.2) ?_ N _ hF (isB.r (Or.inl rfl)) ok
  intro nx2 q ih2 hF
  obtain ⟨v3, σ⟩ := q
  intro h3 ok
  have hF : F_X10_loadPercents_B2 N  nx2 v1 v2 v3 σ = some res := hF
  unfold F_X10_loadPercents_B2 at hF
  have J62 : ∀ (v1 : Nat) (v2 : Int) (σ : Sto), knd v1 = (17, 5) → inR v2 → OK σ → F_X10_loadPercents_J62 N  v1 v2 σ = some res → At p l e rm_X10_loadPercents s m args below meth c g 5 (MQ below (QV g s.heap.size res) args s 0 0 (AA g s.heap.size)) 62 [(0, vr g 46), (1, vr g v1), (2, vi v2)] [] σ := by
    intro v1 v2 σ hk1 h2 ok hF
    unfold F_X10_loadPercents_J62 at hF
    refine at_iconst C dX10_loadPercents_62 ?_
    refine at_istore_n C dX10_loadPercents_63 rfl (Nat.le_of_ble_eq_true rfl) rfl ?_
    refine at_sub [1, 2, 3, 0] rfl ?_
    refine loopK_ind (res := res) (P := fun (q : Int × Sto) => inR q.1 → OK q.2 → At p l e rm_X10_loadPercents s m args below meth c g 5 (MQ below (QV g s.heap.size res) args s 0 0 (AA g s.heap.size)) 64 [(0, vr g 46), (1, vr g v1), (2, vi v2), (3, vi q.1)] [] q.2) ?_ N _ hF (isB.r (Or.inl rfl)) ok
    intro nx64 q ih64 hF
    obtain ⟨v3, σ⟩ := q
    intro h3 ok
    have hF : F_X10_loadPercents_B64 N  nx64 v1 v2 v3 σ = some res := hF
    unfold F_X10_loadPercents_B64 at hF
    refine at_iload_n C 3 dX10_loadPercents_64 rfl rfl ?_
    refine at_aload_n C 1 dX10_loadPercents_65 rfl rfl ?_
    refine at_geti (jz := 4) C fw_10_46 hk1 rfl (Nat.le_of_ble_eq_true rfl) rfl rfl dX10_loadPercents_66 ?_
    refine at_icmp_ge C h3 (ok _ _) dX10_loadPercents_69 rfl (fun c1 => ?_) (fun c1 => ?_)
    · have hF := (if_pos c1).symm.trans hF
      obtain rfl := Option.some.inj hF
      exact at_vret C hr hlk ok dX10_loadPercents_148
    · have hF := (if_neg c1).symm.trans hF
      have J142 : ∀ (v3 : Int) (σ : Sto), inR v3 → OK σ → F_X10_loadPercents_J142 N nx64 v1 v2 v3 σ = some res → At p l e rm_X10_loadPercents s m args below meth c g 5 (MQ below (QV g s.heap.size res) args s 0 0 (AA g s.heap.size)) 142 [(0, vr g 46), (1, vr g v1), (2, vi v2), (3, vi v3)] [] σ := by
        intro v3 σ h3 ok hF
        unfold F_X10_loadPercents_J142 at hF
        refine at_iinc C 3 dX10_loadPercents_142 rfl (Nat.le_of_ble_eq_true rfl) rfl ?_
        refine at_goto C dX10_loadPercents_145 rfl ?_
        refine at_sub [1, 2, 3, 0] rfl ?_
        exact ih64 _ hF (ja_R _ _) ok
      refine at_aload_n C 1 dX10_loadPercents_72 rfl rfl ?_
      refine at_getr C 1 fw_10_51 hk1 rfl (Nat.le_of_ble_eq_true rfl) rfl rfl dX10_loadPercents_73 ?_
      refine at_iload_n C 3 dX10_loadPercents_76 rfl rfl ?_
      obtain ⟨b2, hF⟩ := inb_some hF
      refine at_iaload C (kf7_0 hk1) b2 dX10_loadPercents_77 ?_
      refine at_bipush C dX10_loadPercents_78 (by decide) ?_
      refine at_imul C dX10_loadPercents_80 ?_
      refine at_aload_n C 1 dX10_loadPercents_81 rfl rfl ?_
      refine at_getr C 2 fw_10_54 hk1 rfl (Nat.le_of_ble_eq_true rfl) rfl rfl dX10_loadPercents_82 ?_
      refine at_iload_n C 3 dX10_loadPercents_85 rfl rfl ?_
      refine at_iaload C (kf7_1 hk1) b2 dX10_loadPercents_86 ?_
      refine at_iadd C dX10_loadPercents_87 ?_
      refine at_istore C dX10_loadPercents_88 (Nat.le_of_ble_eq_true rfl) rfl ?_
      refine at_aload_n C 2 dX10_loadPercents_90 rfl rfl ?_
      refine at_getr C 4 fw_10_57 hk1 rfl (Nat.le_of_ble_eq_true rfl) rfl rfl dX10_loadPercents_91 ?_
      refine at_iload_n C 4 dX10_loadPercents_94 rfl rfl ?_
      refine at_iaload C (kf7_3 hk1) b2 dX10_loadPercents_95 ?_
      refine at_iload_n C 3 dX10_loadPercents_96 rfl rfl ?_
      refine at_icmp_gt C (ok _ _) h2 dX10_loadPercents_97 rfl (fun c3 => ?_) (fun c3 => ?_)
      · have hF := (if_pos c3).symm.trans hF
        refine at_sub [1, 2, 3, 4] rfl ?_
        exact J142 v3 σ h3 ok hF
      · have hF := (if_neg c3).symm.trans hF
        refine at_aload_n C 2 dX10_loadPercents_100 rfl rfl ?_
        refine at_getr C 4 fw_10_57 hk1 rfl (Nat.le_of_ble_eq_true rfl) rfl rfl dX10_loadPercents_101 ?_
        refine at_iload_n C 4 dX10_loadPercents_104 rfl rfl ?_
        refine at_iaload C (kf7_3 hk1) b2 dX10_loadPercents_105 ?_
        refine at_aload_n C 1 dX10_loadPercents_106 rfl rfl ?_
        refine at_getr (k' := 48) C 2 fw_10_15 kd46 rfl (Nat.le_of_ble_eq_true rfl) rfl rfl dX10_loadPercents_107 ?_
        refine at_iload C 0 dX10_loadPercents_110 rfl ?_
        obtain ⟨b4, hF⟩ := inb_some hF
        refine at_iaload C kd48 b4 dX10_loadPercents_112 ?_
        refine at_icmp_lt C (ok _ _) (ok _ _) dX10_loadPercents_113 rfl (fun c5 => ?_) (fun c5 => ?_)
        · have hF := (if_pos c5).symm.trans hF
          refine at_sub [1, 2, 3, 4] rfl ?_
          exact J142 v3 σ h3 ok hF
        · have hF := (if_neg c5).symm.trans hF
          refine at_aload_n C 1 dX10_loadPercents_116 rfl rfl ?_
          refine at_getr (k' := 48) C 2 fw_10_15 kd46 rfl (Nat.le_of_ble_eq_true rfl) rfl rfl dX10_loadPercents_117 ?_
          refine at_iload C 0 dX10_loadPercents_120 rfl ?_
          refine at_aload_n C 2 dX10_loadPercents_122 rfl rfl ?_
          refine at_getr C 4 fw_10_57 hk1 rfl (Nat.le_of_ble_eq_true rfl) rfl rfl dX10_loadPercents_123 ?_
          refine at_iload_n C 4 dX10_loadPercents_126 rfl rfl ?_
          refine at_iaload C (kf7_3 hk1) b2 dX10_loadPercents_127 ?_
          refine at_iastore C kd48 b4 dX10_loadPercents_128 ?_
          refine at_aload_n C 1 dX10_loadPercents_129 rfl rfl ?_
          refine at_getr (k' := 47) C 1 fw_10_9 kd46 rfl (Nat.le_of_ble_eq_true rfl) rfl rfl dX10_loadPercents_130 ?_
          refine at_iload C 0 dX10_loadPercents_133 rfl ?_
          refine at_aload_n C 2 dX10_loadPercents_135 rfl rfl ?_
          refine at_getr C 3 fw_10_58 hk1 rfl (Nat.le_of_ble_eq_true rfl) rfl rfl dX10_loadPercents_136 ?_
          refine at_iload_n C 4 dX10_loadPercents_139 rfl rfl ?_
          refine at_iaload C (kf7_2 hk1) b2 dX10_loadPercents_140 ?_
          refine at_iastore C kd47 b4 dX10_loadPercents_141 ?_
          refine at_sub [1, 2, 3, 4] rfl ?_
          exact J142 v3 (upI (upI σ 48 (ja (jm (σ.1 (v1 + 1) v3) 8) (σ.1 (v1 + 2) v3)) (σ.1 (v1 + 4) v3)) 47 (ja (jm (σ.1 (v1 + 1) v3) 8) (σ.1 (v1 + 2) v3)) ((upI σ 48 (ja (jm (σ.1 (v1 + 1) v3) 8) (σ.1 (v1 + 2) v3)) (σ.1 (v1 + 4) v3)).1 (v1 + 3) v3)) h3 (OK_up (OK_up ok (ok _ _)) ((OK_up ok (ok _ _)) _ _)) hF
  refine at_iload_n C 3 dX10_loadPercents_2 rfl rfl ?_
  refine at_aload_n C 0 dX10_loadPercents_3 rfl rfl ?_
  refine at_geti (jz := 5) C fw_10_28 kd46 rfl (Nat.le_of_ble_eq_true rfl) rfl rfl dX10_loadPercents_4 ?_
  refine at_icmp_ge C h3 (ok _ _) dX10_loadPercents_7 rfl (fun c6 => ?_) (fun c6 => ?_)
  · have hF := (if_pos c6).symm.trans hF
    refine at_sub [0, 1, 2] rfl ?_
    exact J62 v1 v2 σ hk1 h2 ok hF
  · have hF := (if_neg c6).symm.trans hF
    refine at_iload_n C 3 dX10_loadPercents_10 rfl rfl ?_
    refine at_iconst C dX10_loadPercents_11 ?_
    refine at_iadd C dX10_loadPercents_12 ?_
    refine at_istore C dX10_loadPercents_13 (Nat.le_of_ble_eq_true rfl) rfl ?_
    refine at_sub [1, 2, 3, 4, 0] rfl ?_
    refine loopK_ind (res := res) (P := fun (q : Int × Sto) => inR q.1 → OK q.2 → At p l e rm_X10_loadPercents s m args below meth c g 5 (MQ below (QV g s.heap.size res) args s 0 0 (AA g s.heap.size)) 15 [(0, vr g 46), (1, vr g v1), (2, vi v2), (3, vi v3), (4, vi q.1)] [] q.2) ?_ N _ hF (ja_R _ _) ok
    intro nx15 q ih15 hF
    obtain ⟨v4, σ⟩ := q
    intro h4 ok
    have hF : F_X10_loadPercents_B15 N nx2 nx15 v1 v2 v3 v4 σ = some res := hF
    unfold F_X10_loadPercents_B15 at hF
    have J56 : ∀ (v3 : Int) (σ : Sto), inR v3 → OK σ → F_X10_loadPercents_J56 N nx2 v1 v2 v3 σ = some res → At p l e rm_X10_loadPercents s m args below meth c g 5 (MQ below (QV g s.heap.size res) args s 0 0 (AA g s.heap.size)) 56 [(0, vr g 46), (1, vr g v1), (2, vi v2), (3, vi v3)] [] σ := by
      intro v3 σ h3 ok hF
      unfold F_X10_loadPercents_J56 at hF
      refine at_iinc C 3 dX10_loadPercents_56 rfl (Nat.le_of_ble_eq_true rfl) rfl ?_
      refine at_goto C dX10_loadPercents_59 rfl ?_
      refine at_sub [1, 2, 3, 0] rfl ?_
      exact ih2 _ hF (ja_R _ _) ok
    refine at_iload C 4 dX10_loadPercents_15 rfl ?_
    refine at_aload_n C 0 dX10_loadPercents_17 rfl rfl ?_
    refine at_geti (jz := 5) C fw_10_28 kd46 rfl (Nat.le_of_ble_eq_true rfl) rfl rfl dX10_loadPercents_18 ?_
    refine at_icmp_ge C h4 (ok _ _) dX10_loadPercents_21 rfl (fun c7 => ?_) (fun c7 => ?_)
    · have hF := (if_pos c7).symm.trans hF
      refine at_sub [0, 1, 2, 3] rfl ?_
      exact J56 v3 σ h3 ok hF
    · have hF := (if_neg c7).symm.trans hF
      refine at_aload_n C 0 dX10_loadPercents_24 rfl rfl ?_
      refine at_getr (k' := 47) C 1 fw_10_9 kd46 rfl (Nat.le_of_ble_eq_true rfl) rfl rfl dX10_loadPercents_25 ?_
      refine at_iload_n C 3 dX10_loadPercents_28 rfl rfl ?_
      refine at_bipush C dX10_loadPercents_29 (by decide) ?_
      refine at_imul C dX10_loadPercents_31 ?_
      refine at_iload C 4 dX10_loadPercents_32 rfl ?_
      refine at_iadd C dX10_loadPercents_34 ?_
      refine at_iconst C dX10_loadPercents_35 ?_
      obtain ⟨b8, hF⟩ := inb_some hF
      refine at_iastore C kd47 b8 dX10_loadPercents_36 ?_
      refine at_aload_n C 0 dX10_loadPercents_37 rfl rfl ?_
      refine at_getr (k' := 48) C 2 fw_10_15 kd46 rfl (Nat.le_of_ble_eq_true rfl) rfl rfl dX10_loadPercents_38 ?_
      refine at_iload_n C 3 dX10_loadPercents_41 rfl rfl ?_
      refine at_bipush C dX10_loadPercents_42 (by decide) ?_
      refine at_imul C dX10_loadPercents_44 ?_
      refine at_iload C 4 dX10_loadPercents_45 rfl ?_
      refine at_iadd C dX10_loadPercents_47 ?_
      refine at_iconst C dX10_loadPercents_48 ?_
      refine at_iastore C kd48 b8 dX10_loadPercents_49 ?_
      refine at_iinc C 4 dX10_loadPercents_50 rfl (Nat.le_of_ble_eq_true rfl) rfl ?_
      refine at_goto C dX10_loadPercents_53 rfl ?_
      refine at_sub [1, 2, 3, 4, 0] rfl ?_
      exact ih15 _ hF (ja_R _ _) (OK_up (OK_up ok (isB.r (Or.inl rfl))) ⟨by decide, by decide⟩)
abbrev rm_X10_loadParts : Room := { frames := 0, cells := 0, slots := 0, locals := 0 }
def F_X10_loadParts_J75 (N : Nat) (nx18 : (Int × Sto) → Option (Sto)) (v1 : Int) (v2 : Int) (v3 : Int) (v4 : UInt32) (σ : Sto) : Option (Sto) :=
  inb (ja v2 v3) 64 (nx18 ((ja v3 1), (upF σ 49 (ja v2 v3) (v4.toNat : Int))))
def F_X10_loadParts_B32 (N : Nat) (nx18 : (Int × Sto) → Option (Sto)) (nx32 : (UInt32 × Int) → Option (Sto)) (v1 : Int) (v2 : Int) (v3 : Int) (v4 : UInt32) (v5 : Int) (σ : Sto) : Option (Sto) :=
  if v3 ≤ v5 then (F_X10_loadParts_J75 N nx18 v1 v2 v3 v4 σ) else (inb (ja v2 v5) 64 (inb (ja (jm v5 8) v3) 64 (grd (vf_n32 (FP.fdiv (ji2f (σ.1 47 (ja (jm v5 8) v3))) 1120403456)) (Classical.propDecidable _) (grd (vf_n32 (FP.fmul (fb (σ.2 49 (ja v2 v5))) (FP.fdiv (ji2f (σ.1 47 (ja (jm v5 8) v3))) 1120403456))) (Classical.propDecidable _) (grd (vf_n32 (FP.fadd v4 (FP.fmul (fb (σ.2 49 (ja v2 v5))) (FP.fdiv (ji2f (σ.1 47 (ja (jm v5 8) v3))) 1120403456)))) (Classical.propDecidable _) (nx32 ((FP.fadd v4 (FP.fmul (fb (σ.2 49 (ja v2 v5))) (FP.fdiv (ji2f (σ.1 47 (ja (jm v5 8) v3))) 1120403456))), (ja v5 1))))))))
def F_X10_loadParts_B18 (N : Nat) (nx18 : (Int × Sto) → Option (Sto)) (v1 : Int) (v2 : Int) (v3 : Int) (σ : Sto) : Option (Sto) :=
  if (σ.1 46 5) ≤ v3 then (some σ) else (loopK (fun q nx32 => F_X10_loadParts_B32 N nx18 nx32 v1 v2 v3 q.1 q.2 σ) N (FP.fconst0, v1))
def F_X10_loadParts (N : Nat) (v1 : Int) (σ : Sto) : Option (Sto) :=
  inb (ja (jm v1 8) v1) 64 (loopK (fun q nx18 => F_X10_loadParts_B18 N  nx18 v1 (jm v1 8) q.1 q.2) N ((ja v1 1), (upF σ 49 (ja (jm v1 8) v1) (FP.fconst1.toNat : Int))))
set_option maxHeartbeats 4000000 in
set_option maxRecDepth 100000 in
theorem c_X10_loadParts (l : Launch) (g : Geo) (N : Nat) (v1 : Int) (σ : Sto) (res : Sto) (h1 : inR v1) (ok : OK σ) (hF : F_X10_loadParts N v1 σ = some res) : MtV l g yX10_loadParts cX10_loadParts 6 none rm_X10_loadParts [vr g 46, vi v1] σ res := by
  intro sz
  refine Met.ofAt (own := RX10) (QQ := fun z => QV g z res) (by decide +kernel) (Nat.le_of_ble_eq_true rfl) rfl ?_
  intro p e s m args below meth c C hr hlk
  show At p l e rm_X10_loadParts s m args below meth c g 6 (MQ below (QV g s.heap.size res) args s 0 0 (AA g s.heap.size)) 0 [(0, vr g 46), (1, vi v1)] [] σ
  unfold F_X10_loadParts at hF
  refine at_iload_n C 1 dX10_loadParts_0 rfl rfl ?_
  refine at_bipush C dX10_loadParts_1 (by decide) ?_
  refine at_imul C dX10_loadParts_3 ?_
  refine at_istore_n C dX10_loadParts_4 rfl (Nat.le_of_ble_eq_true rfl) rfl ?_
  refine at_aload_n C 1 dX10_loadParts_5 rfl rfl ?_
  refine at_getr (k' := 49) C 3 fw_10_18 kd46 rfl (Nat.le_of_ble_eq_true rfl) rfl rfl dX10_loadParts_6 ?_
  refine at_iload_n C 0 dX10_loadParts_9 rfl rfl ?_
  refine at_iload_n C 2 dX10_loadParts_10 rfl rfl ?_
  refine at_iadd C dX10_loadParts_11 ?_
  refine at_fconst1 C dX10_loadParts_12 ?_
  obtain ⟨b1, hF⟩ := inb_some hF
  refine at_fastore C kd49 b1 dX10_loadParts_13 ?_
  refine at_iload_n C 2 dX10_loadParts_14 rfl rfl ?_
  refine at_iconst C dX10_loadParts_15 ?_
  refine at_iadd C dX10_loadParts_16 ?_
  refine at_istore_n C dX10_loadParts_17 rfl (Nat.le_of_ble_eq_true rfl) rfl ?_
  refine at_sub [2, 3, 1, 0] rfl ?_
  refine loopK_ind (res := res) (P := fun (q : Int × Sto) => inR q.1 → OK q.2 → At p l e rm_X10_loadParts s m args below meth c g 6 (MQ below (QV g s.heap.size res) args s 0 0 (AA g s.heap.size)) 18 [(0, vr g 46), (1, vi v1), (2, vi (jm v1 8)), (3, vi q.1)] [] q.2) ?_ N _ hF (ja_R _ _) (OK_uf ok)
  intro nx18 q ih18 hF
  obtain ⟨v3, σ⟩ := q
  intro h3 ok
  have hF : F_X10_loadParts_B18 N  nx18 v1 (jm v1 8) v3 σ = some res := hF
  have h2 : inR (jm v1 8) := (jm_R _ _)
  generalize (jm v1 8) = v2 at *
  unfold F_X10_loadParts_B18 at hF
  refine at_iload_n C 3 dX10_loadParts_18 rfl rfl ?_
  refine at_aload_n C 0 dX10_loadParts_19 rfl rfl ?_
  refine at_geti (jz := 5) C fw_10_28 kd46 rfl (Nat.le_of_ble_eq_true rfl) rfl rfl dX10_loadParts_20 ?_
  refine at_icmp_ge C h3 (ok _ _) dX10_loadParts_23 rfl (fun c2 => ?_) (fun c2 => ?_)
  · have hF := (if_pos c2).symm.trans hF
    obtain rfl := Option.some.inj hF
    exact at_vret C hr hlk ok dX10_loadParts_91
  · have hF := (if_neg c2).symm.trans hF
    refine at_fconst0 C dX10_loadParts_26 ?_
    refine at_fstore C dX10_loadParts_27 (Nat.le_of_ble_eq_true rfl) rfl ?_
    refine at_iload_n C 2 dX10_loadParts_29 rfl rfl ?_
    refine at_istore C dX10_loadParts_30 (Nat.le_of_ble_eq_true rfl) rfl ?_
    refine at_sub [2, 3, 4, 5, 1, 0] rfl ?_
    refine loopK_ind (res := res) (P := fun (q : UInt32 × Int) => inR q.2 → At p l e rm_X10_loadParts s m args below meth c g 6 (MQ below (QV g s.heap.size res) args s 0 0 (AA g s.heap.size)) 32 [(0, vr g 46), (1, vi v1), (2, vi v2), (3, vi v3), (4, .float q.1), (5, vi q.2)] [] σ) ?_ N _ hF h1
    intro nx32 q ih32 hF
    obtain ⟨v4, v5⟩ := q
    intro h5
    have hF : F_X10_loadParts_B32 N nx18 nx32 v1 v2 v3 v4 v5 σ = some res := hF
    unfold F_X10_loadParts_B32 at hF
    have J75 : ∀ (v3 : Int) (v4 : UInt32) (σ : Sto), inR v3 → OK σ → F_X10_loadParts_J75 N nx18 v1 v2 v3 v4 σ = some res → At p l e rm_X10_loadParts s m args below meth c g 6 (MQ below (QV g s.heap.size res) args s 0 0 (AA g s.heap.size)) 75 [(0, vr g 46), (1, vi v1), (2, vi v2), (3, vi v3), (4, .float v4)] [] σ := by
      intro v3 v4 σ h3 ok hF
      unfold F_X10_loadParts_J75 at hF
      refine at_aload_n C 0 dX10_loadParts_75 rfl rfl ?_
      refine at_getr (k' := 49) C 3 fw_10_18 kd46 rfl (Nat.le_of_ble_eq_true rfl) rfl rfl dX10_loadParts_76 ?_
      refine at_iload_n C 2 dX10_loadParts_79 rfl rfl ?_
      refine at_iload_n C 3 dX10_loadParts_80 rfl rfl ?_
      refine at_iadd C dX10_loadParts_81 ?_
      refine at_fload C 4 dX10_loadParts_82 rfl ?_
      obtain ⟨b3, hF⟩ := inb_some hF
      refine at_fastore C kd49 b3 dX10_loadParts_84 ?_
      refine at_iinc C 3 dX10_loadParts_85 rfl (Nat.le_of_ble_eq_true rfl) rfl ?_
      refine at_goto C dX10_loadParts_88 rfl ?_
      refine at_sub [1, 2, 3, 0] rfl ?_
      exact ih18 _ hF (ja_R _ _) (OK_uf ok)
    refine at_iload C 5 dX10_loadParts_32 rfl ?_
    refine at_iload_n C 3 dX10_loadParts_34 rfl rfl ?_
    refine at_icmp_ge C h5 h3 dX10_loadParts_35 rfl (fun c4 => ?_) (fun c4 => ?_)
    · have hF := (if_pos c4).symm.trans hF
      refine at_sub [0, 1, 2, 3, 4] rfl ?_
      exact J75 v3 v4 σ h3 ok hF
    · have hF := (if_neg c4).symm.trans hF
      refine at_fload C 4 dX10_loadParts_38 rfl ?_
      refine at_aload_n C 0 dX10_loadParts_40 rfl rfl ?_
      refine at_getr (k' := 49) C 3 fw_10_18 kd46 rfl (Nat.le_of_ble_eq_true rfl) rfl rfl dX10_loadParts_41 ?_
      refine at_iload_n C 2 dX10_loadParts_44 rfl rfl ?_
      refine at_iload C 5 dX10_loadParts_45 rfl ?_
      refine at_iadd C dX10_loadParts_47 ?_
      obtain ⟨b5, hF⟩ := inb_some hF
      refine at_faload C kd49 b5 dX10_loadParts_48 ?_
      refine at_aload_n C 0 dX10_loadParts_49 rfl rfl ?_
      refine at_getr (k' := 47) C 1 fw_10_9 kd46 rfl (Nat.le_of_ble_eq_true rfl) rfl rfl dX10_loadParts_50 ?_
      refine at_iload C 5 dX10_loadParts_53 rfl ?_
      refine at_bipush C dX10_loadParts_55 (by decide) ?_
      refine at_imul C dX10_loadParts_57 ?_
      refine at_iload_n C 3 dX10_loadParts_58 rfl rfl ?_
      refine at_iadd C dX10_loadParts_59 ?_
      obtain ⟨b6, hF⟩ := inb_some hF
      refine at_iaload C kd47 b6 dX10_loadParts_60 ?_
      refine at_i2f C dX10_loadParts_61 ?_
      refine at_ldcf C dX10_loadParts_62 w748 ?_
      obtain ⟨n7, hF⟩ := grd_some hF
      refine at_fdiv C dX10_loadParts_64 n7 ?_
      obtain ⟨n8, hF⟩ := grd_some hF
      refine at_fmul C dX10_loadParts_65 n8 ?_
      obtain ⟨n9, hF⟩ := grd_some hF
      refine at_fadd C dX10_loadParts_66 n9 ?_
      refine at_fstore C dX10_loadParts_67 (Nat.le_of_ble_eq_true rfl) rfl ?_
      refine at_iinc C 5 dX10_loadParts_69 rfl (Nat.le_of_ble_eq_true rfl) rfl ?_
      refine at_goto C dX10_loadParts_72 rfl ?_
      refine at_sub [2, 3, 4, 5, 1, 0] rfl ?_
      exact ih32 _ hF (ja_R _ _)
abbrev rm_X10_load : Room := { frames := 1, cells := 0, slots := 0, locals := 25 }
def F_X10_load_B19 (N : Nat) (nx19 : (Int × Sto) → Option (Sto))  (v3 : Int) (σ : Sto) : Option (Sto) :=
  if (σ.1 46 5) ≤ v3 then (some σ) else ((F_X10_loadParts N v3 σ).bind (fun q3 => nx19 ((ja v3 1), q3)))
def F_X10_load (N : Nat) (v1 : Nat) (v2 : Int) (σ : Sto) : Option (Sto) :=
  (F_X10_loadPercents N (v1 + 8) v2 (upI σ 46 5 (σ.1 v1 8))).bind (fun q1 => loopK (fun q nx19 => F_X10_load_B19 N  nx19  q.1 q.2) N (0, q1))
set_option maxHeartbeats 4000000 in
set_option maxRecDepth 100000 in
theorem c_X10_load (l : Launch) (g : Geo) (N : Nat) (v1 : Nat) (v2 : Int) (σ : Sto) (res : Sto) (hk1 : knd v1 = (10, 14)) (h2 : inR v2) (ok : OK σ) (hF : F_X10_load N v1 v2 σ = some res) : MtV l g yX10_load cX10_load 4 none rm_X10_load [vr g 46, vr g v1, vi v2] σ res := by
  intro sz
  refine Met.ofAt (own := RX10) (QQ := fun z => QV g z res) (by decide +kernel) (Nat.le_of_ble_eq_true rfl) rfl ?_
  intro p e s m args below meth c C hr hlk
  show At p l e rm_X10_load s m args below meth c g 4 (MQ below (QV g s.heap.size res) args s 0 0 (AA g s.heap.size)) 0 [(0, vr g 46), (1, vr g v1), (2, vi v2)] [] σ
  unfold F_X10_load at hF
  refine at_aload_n C 0 dX10_load_0 rfl rfl ?_
  refine at_aload_n C 1 dX10_load_1 rfl rfl ?_
  refine at_geti (jz := 8) C fw_10_32 hk1 rfl (Nat.le_of_ble_eq_true rfl) rfl rfl dX10_load_2 ?_
  refine at_puti (jz := 5) C fu_10_28 kd46 rfl (Nat.le_of_ble_eq_true rfl) rfl rfl dX10_load_5 ?_
  refine at_aload_n C 0 dX10_load_8 rfl rfl ?_
  refine at_aload_n C 1 dX10_load_9 rfl rfl ?_
  refine at_getr C 8 fw_10_35 hk1 rfl (Nat.le_of_ble_eq_true rfl) rfl rfl dX10_load_10 ?_
  refine at_iload_n C 2 dX10_load_13 rfl rfl ?_
  obtain ⟨q1, eq1, hF⟩ := bind_some' hF
  refine at_callVv (ci := 10) C (c_X10_loadPercents l g N (v1 + 8) v2 (upI σ 46 5 (σ.1 v1 8)) q1 (kf0_7 hk1) h2 (OK_up ok (ok _ _)) eq1) kv_X10_loadPercents w740 kd46 rfl rfl rfl rfl (Nat.le_of_ble_eq_true rfl) ⟨rfl, rfl, (Nat.le_of_ble_eq_true rfl), (Nat.le_of_ble_eq_true rfl)⟩ dX10_load_14 (fun okq1 => ?_)
  refine at_iconst C dX10_load_17 ?_
  refine at_istore_n C dX10_load_18 rfl (Nat.le_of_ble_eq_true rfl) rfl ?_
  refine at_sub [1, 0] rfl ?_
  refine loopK_ind (res := res) (P := fun (q : Int × Sto) => inR q.1 → OK q.2 → At p l e rm_X10_load s m args below meth c g 4 (MQ below (QV g s.heap.size res) args s 0 0 (AA g s.heap.size)) 19 [(0, vr g 46), (3, vi q.1)] [] q.2) ?_ N _ hF (isB.r (Or.inl rfl)) okq1
  intro nx19 q ih19 hF
  obtain ⟨v3, σ⟩ := q
  intro h3 ok
  have hF : F_X10_load_B19 N  nx19  v3 σ = some res := hF
  unfold F_X10_load_B19 at hF
  refine at_iload_n C 1 dX10_load_19 rfl rfl ?_
  refine at_aload_n C 0 dX10_load_20 rfl rfl ?_
  refine at_geti (jz := 5) C fw_10_28 kd46 rfl (Nat.le_of_ble_eq_true rfl) rfl rfl dX10_load_21 ?_
  refine at_icmp_ge C h3 (ok _ _) dX10_load_24 rfl (fun c2 => ?_) (fun c2 => ?_)
  · have hF := (if_pos c2).symm.trans hF
    obtain rfl := Option.some.inj hF
    exact at_vret C hr hlk ok dX10_load_38
  · have hF := (if_neg c2).symm.trans hF
    refine at_aload_n C 0 dX10_load_27 rfl rfl ?_
    refine at_iload_n C 1 dX10_load_28 rfl rfl ?_
    obtain ⟨q3, eq3, hF⟩ := bind_some' hF
    refine at_callVv (ci := 10) C (c_X10_loadParts l g N v3 σ q3 h3 ok eq3) kv_X10_loadParts w744 kd46 rfl rfl rfl rfl (Nat.le_of_ble_eq_true rfl) ⟨rfl, rfl, (Nat.le_of_ble_eq_true rfl), (Nat.le_of_ble_eq_true rfl)⟩ dX10_load_29 (fun okq3 => ?_)
    refine at_iinc C 1 dX10_load_32 rfl (Nat.le_of_ble_eq_true rfl) rfl ?_
    refine at_goto C dX10_load_35 rfl ?_
    refine at_sub [1, 0] rfl ?_
    exact ih19 _ hF (ja_R _ _) okq3
abbrev rm_X10_judge : Room := { frames := 0, cells := 0, slots := 0, locals := 0 }
def F_X10_judge_J67 (N : Nat) (nx2 : (Int × Sto) → Option (Sto)) (v1 : Int) (v2 : Int) (σ : Sto) : Option (Sto) :=
  nx2 ((ja v2 1), σ)
def F_X10_judge_J61 (N : Nat) (nx2 : (Int × Sto) → Option (Sto)) (nx21 : (Int × Sto) → Option (Sto)) (v1 : Int) (v2 : Int) (v3 : Int) (σ : Sto) : Option (Sto) :=
  nx21 ((ja v3 1), σ)
def F_X10_judge_B21 (N : Nat) (nx2 : (Int × Sto) → Option (Sto)) (nx21 : (Int × Sto) → Option (Sto)) (v1 : Int) (v2 : Int) (v3 : Int) (σ : Sto) : Option (Sto) :=
  if (σ.1 46 5) ≤ v3 then (F_X10_judge_J67 N nx2 v1 v2 σ) else (inb (ja (jm v2 8) v3) 64 (grd (vf_n32 (FP.fmul (fb (σ.2 49 (ja (jm v2 8) v3))) 1120403456)) (Classical.propDecidable _) (if (jfcmp (FP.fmul (fb (σ.2 49 (ja (jm v2 8) v3))) 1120403456) (ji2f v1) .l) < 0 then (F_X10_judge_J61 N nx2 nx21 v1 v2 v3 σ) else (inb v2 8 (F_X10_judge_J61 N nx2 nx21 v1 v2 v3 (upI σ 50 v2 (jor (σ.1 50 v2) (jshl 1 v3))))))))
def F_X10_judge_B2 (N : Nat) (nx2 : (Int × Sto) → Option (Sto)) (v1 : Int) (v2 : Int) (σ : Sto) : Option (Sto) :=
  if (σ.1 46 5) ≤ v2 then (some σ) else (inb v2 8 (loopK (fun q nx21 => F_X10_judge_B21 N nx2 nx21 v1 v2 q.1 q.2) N ((ja v2 1), (upI σ 50 v2 0))))
def F_X10_judge (N : Nat) (v1 : Int) (σ : Sto) : Option (Sto) :=
  loopK (fun q nx2 => F_X10_judge_B2 N  nx2 v1 q.1 q.2) N (0, σ)
set_option maxHeartbeats 4000000 in
set_option maxRecDepth 100000 in
theorem c_X10_judge (l : Launch) (g : Geo) (N : Nat) (v1 : Int) (σ : Sto) (res : Sto) (h1 : inR v1) (ok : OK σ) (hF : F_X10_judge N v1 σ = some res) : MtV l g yX10_judge cX10_judge 4 none rm_X10_judge [vr g 46, vi v1] σ res := by
  intro sz
  refine Met.ofAt (own := RX10) (QQ := fun z => QV g z res) (by decide +kernel) (Nat.le_of_ble_eq_true rfl) rfl ?_
  intro p e s m args below meth c C hr hlk
  show At p l e rm_X10_judge s m args below meth c g 4 (MQ below (QV g s.heap.size res) args s 0 0 (AA g s.heap.size)) 0 [(0, vr g 46), (1, vi v1)] [] σ
  unfold F_X10_judge at hF
  refine at_iconst C dX10_judge_0 ?_
  refine at_istore_n C dX10_judge_1 rfl (Nat.le_of_ble_eq_true rfl) rfl ?_
  refine at_sub [1, 2, 0] rfl ?_
  refine loopK_ind (res := res) (P := fun (q : Int × Sto) => inR q.1 → OK q.2 → At p l e rm_X10_judge s m args below meth c g 4 (MQ below (QV g s.heap.size res) args s 0 0 (AA g s.heap.size)) 2 [(0, vr g 46), (1, vi v1), (2, vi q.1)] [] q.2) ?_ N _ hF (isB.r (Or.inl rfl)) ok
  intro nx2 q ih2 hF
  obtain ⟨v2, σ⟩ := q
  intro h2 ok
  have hF : F_X10_judge_B2 N  nx2 v1 v2 σ = some res := hF
  unfold F_X10_judge_B2 at hF
  refine at_iload_n C 2 dX10_judge_2 rfl rfl ?_
  refine at_aload_n C 0 dX10_judge_3 rfl rfl ?_
  refine at_geti (jz := 5) C fw_10_28 kd46 rfl (Nat.le_of_ble_eq_true rfl) rfl rfl dX10_judge_4 ?_
  refine at_icmp_ge C h2 (ok _ _) dX10_judge_7 rfl (fun c1 => ?_) (fun c1 => ?_)
  · have hF := (if_pos c1).symm.trans hF
    obtain rfl := Option.some.inj hF
    exact at_vret C hr hlk ok dX10_judge_73
  · have hF := (if_neg c1).symm.trans hF
    refine at_aload_n C 0 dX10_judge_10 rfl rfl ?_
    refine at_getr (k' := 50) C 4 fw_10_22 kd46 rfl (Nat.le_of_ble_eq_true rfl) rfl rfl dX10_judge_11 ?_
    refine at_iload_n C 2 dX10_judge_14 rfl rfl ?_
    refine at_iconst C dX10_judge_15 ?_
    obtain ⟨b2, hF⟩ := inb_some hF
    refine at_iastore C kd50 b2 dX10_judge_16 ?_
    refine at_iload_n C 2 dX10_judge_17 rfl rfl ?_
    refine at_iconst C dX10_judge_18 ?_
    refine at_iadd C dX10_judge_19 ?_
    refine at_istore_n C dX10_judge_20 rfl (Nat.le_of_ble_eq_true rfl) rfl ?_
    refine at_sub [1, 2, 3, 0] rfl ?_
    refine loopK_ind (res := res) (P := fun (q : Int × Sto) => inR q.1 → OK q.2 → At p l e rm_X10_judge s m args below meth c g 4 (MQ below (QV g s.heap.size res) args s 0 0 (AA g s.heap.size)) 21 [(0, vr g 46), (1, vi v1), (2, vi v2), (3, vi q.1)] [] q.2) ?_ N _ hF (ja_R _ _) (OK_up ok (isB.r (Or.inl rfl)))
    intro nx21 q ih21 hF
    obtain ⟨v3, σ⟩ := q
    intro h3 ok
    have hF : F_X10_judge_B21 N nx2 nx21 v1 v2 v3 σ = some res := hF
    unfold F_X10_judge_B21 at hF
    have J67 : ∀ (v2 : Int) (σ : Sto), inR v2 → OK σ → F_X10_judge_J67 N nx2 v1 v2 σ = some res → At p l e rm_X10_judge s m args below meth c g 4 (MQ below (QV g s.heap.size res) args s 0 0 (AA g s.heap.size)) 67 [(0, vr g 46), (1, vi v1), (2, vi v2)] [] σ := by
      intro v2 σ h2 ok hF
      unfold F_X10_judge_J67 at hF
      refine at_iinc C 2 dX10_judge_67 rfl (Nat.le_of_ble_eq_true rfl) rfl ?_
      refine at_goto C dX10_judge_70 rfl ?_
      refine at_sub [1, 2, 0] rfl ?_
      exact ih2 _ hF (ja_R _ _) ok
    refine at_iload_n C 3 dX10_judge_21 rfl rfl ?_
    refine at_aload_n C 0 dX10_judge_22 rfl rfl ?_
    refine at_geti (jz := 5) C fw_10_28 kd46 rfl (Nat.le_of_ble_eq_true rfl) rfl rfl dX10_judge_23 ?_
    refine at_icmp_ge C h3 (ok _ _) dX10_judge_26 rfl (fun c3 => ?_) (fun c3 => ?_)
    · have hF := (if_pos c3).symm.trans hF
      refine at_sub [0, 1, 2] rfl ?_
      exact J67 v2 σ h2 ok hF
    · have hF := (if_neg c3).symm.trans hF
      have J61 : ∀ (v3 : Int) (σ : Sto), inR v3 → OK σ → F_X10_judge_J61 N nx2 nx21 v1 v2 v3 σ = some res → At p l e rm_X10_judge s m args below meth c g 4 (MQ below (QV g s.heap.size res) args s 0 0 (AA g s.heap.size)) 61 [(0, vr g 46), (1, vi v1), (2, vi v2), (3, vi v3)] [] σ := by
        intro v3 σ h3 ok hF
        unfold F_X10_judge_J61 at hF
        refine at_iinc C 3 dX10_judge_61 rfl (Nat.le_of_ble_eq_true rfl) rfl ?_
        refine at_goto C dX10_judge_64 rfl ?_
        refine at_sub [1, 2, 3, 0] rfl ?_
        exact ih21 _ hF (ja_R _ _) ok
      refine at_aload_n C 0 dX10_judge_29 rfl rfl ?_
      refine at_getr (k' := 49) C 3 fw_10_18 kd46 rfl (Nat.le_of_ble_eq_true rfl) rfl rfl dX10_judge_30 ?_
      refine at_iload_n C 2 dX10_judge_33 rfl rfl ?_
      refine at_bipush C dX10_judge_34 (by decide) ?_
      refine at_imul C dX10_judge_36 ?_
      refine at_iload_n C 3 dX10_judge_37 rfl rfl ?_
      refine at_iadd C dX10_judge_38 ?_
      obtain ⟨b4, hF⟩ := inb_some hF
      refine at_faload C kd49 b4 dX10_judge_39 ?_
      refine at_ldcf C dX10_judge_40 w748 ?_
      obtain ⟨n5, hF⟩ := grd_some hF
      refine at_fmul C dX10_judge_42 n5 ?_
      refine at_iload_n C 1 dX10_judge_43 rfl rfl ?_
      refine at_i2f C dX10_judge_44 ?_
      refine at_fcmp C dX10_judge_45 ?_
      refine at_if_lt C (jfcmp_R _ _ _) dX10_judge_46 rfl (fun c6 => ?_) (fun c6 => ?_)
      · have hF := (if_pos c6).symm.trans hF
        exact J61 v3 σ h3 ok hF
      · have hF := (if_neg c6).symm.trans hF
        refine at_aload_n C 0 dX10_judge_49 rfl rfl ?_
        refine at_getr (k' := 50) C 4 fw_10_22 kd46 rfl (Nat.le_of_ble_eq_true rfl) rfl rfl dX10_judge_50 ?_
        refine at_iload_n C 2 dX10_judge_53 rfl rfl ?_
        refine at_dup2 C dX10_judge_54 rfl rfl ?_
        obtain ⟨b7, hF⟩ := inb_some hF
        refine at_iaload C kd50 b7 dX10_judge_55 ?_
        refine at_iconst C dX10_judge_56 ?_
        refine at_iload_n C 3 dX10_judge_57 rfl rfl ?_
        refine at_ishl C dX10_judge_58 ?_
        refine at_ior C dX10_judge_59 ?_
        refine at_iastore C kd50 b7 dX10_judge_60 ?_
        exact J61 v3 (upI σ 50 v2 (jor (σ.1 50 v2) (jshl 1 v3))) h3 (OK_up ok (jor_R _ _)) hF
abbrev rm_X10_relativesOf : Room := { frames := 0, cells := 0, slots := 0, locals := 0 }
def F_X10_relativesOf_J47 (N : Nat)  (v1 : Int) (v2 : Int) (σ : Sto) : Option (Int) :=
  some (jand v2 (jxor (jshl 1 v1) (-1)))
def F_X10_relativesOf_J41 (N : Nat) (nx9 : (Int × Int) → Option (Int)) (v1 : Int) (v2 : Int) (v3 : Int) (σ : Sto) : Option (Int) :=
  nx9 (v2, (ja v3 1))
def F_X10_relativesOf_B9 (N : Nat) (nx9 : (Int × Int) → Option (Int)) (v1 : Int) (v2 : Int) (v3 : Int) (σ : Sto) : Option (Int) :=
  if v1 ≤ v3 then (F_X10_relativesOf_J47 N  v1 v2 σ) else (inb v3 8 (if (jand (jshr (σ.1 50 v3) v1) 1) = 1 then (F_X10_relativesOf_J41 N nx9 v1 (jor v2 (jor (σ.1 50 v3) (jshl 1 v3))) v3 σ) else (F_X10_relativesOf_J41 N nx9 v1 v2 v3 σ)))
def F_X10_relativesOf (N : Nat) (v1 : Int) (σ : Sto) : Option (Int) :=
  inb v1 8 (loopK (fun q nx9 => F_X10_relativesOf_B9 N  nx9 v1 q.1 q.2 σ) N ((σ.1 50 v1), 0))
set_option maxHeartbeats 4000000 in
set_option maxRecDepth 100000 in
theorem c_X10_relativesOf (l : Launch) (g : Geo) (N : Nat) (v1 : Int) (σ : Sto) (res : Int) (h1 : inR v1) (ok : OK σ) (hF : F_X10_relativesOf N v1 σ = some res) : MtI l g yX10_relativesOf cX10_relativesOf 4 (some .int) rm_X10_relativesOf [vr g 46, vi v1] σ res σ inR := by
  intro sz
  refine Met.ofAt (own := RX10) (QQ := fun z => QI g z res σ inR) (by decide +kernel) (Nat.le_of_ble_eq_true rfl) rfl ?_
  intro p e s m args below meth c C hr hlk
  show At p l e rm_X10_relativesOf s m args below meth c g 4 (MQ below (QI g s.heap.size res σ inR) args s 0 0 (AA g s.heap.size)) 0 [(0, vr g 46), (1, vi v1)] [] σ
  unfold F_X10_relativesOf at hF
  refine at_aload_n C 0 dX10_relativesOf_0 rfl rfl ?_
  refine at_getr (k' := 50) C 4 fw_10_22 kd46 rfl (Nat.le_of_ble_eq_true rfl) rfl rfl dX10_relativesOf_1 ?_
  refine at_iload_n C 1 dX10_relativesOf_4 rfl rfl ?_
  obtain ⟨b1, hF⟩ := inb_some hF
  refine at_iaload C kd50 b1 dX10_relativesOf_5 ?_
  refine at_istore_n C dX10_relativesOf_6 rfl (Nat.le_of_ble_eq_true rfl) rfl ?_
  refine at_iconst C dX10_relativesOf_7 ?_
  refine at_istore_n C dX10_relativesOf_8 rfl (Nat.le_of_ble_eq_true rfl) rfl ?_
  refine at_sub [2, 3, 1, 0] rfl ?_
  refine loopK_ind (res := res) (P := fun (q : Int × Int) => inR q.1 → inR q.2 → At p l e rm_X10_relativesOf s m args below meth c g 4 (MQ below (QI g s.heap.size res σ inR) args s 0 0 (AA g s.heap.size)) 9 [(0, vr g 46), (1, vi v1), (2, vi q.1), (3, vi q.2)] [] σ) ?_ N _ hF (ok _ _) (isB.r (Or.inl rfl))
  intro nx9 q ih9 hF
  obtain ⟨v2, v3⟩ := q
  intro h2 h3
  have hF : F_X10_relativesOf_B9 N  nx9 v1 v2 v3 σ = some res := hF
  unfold F_X10_relativesOf_B9 at hF
  have J47 : ∀ (v1 : Int) (v2 : Int), inR v1 → inR v2 → F_X10_relativesOf_J47 N  v1 v2 σ = some res → At p l e rm_X10_relativesOf s m args below meth c g 4 (MQ below (QI g s.heap.size res σ inR) args s 0 0 (AA g s.heap.size)) 47 [(1, vi v1), (2, vi v2)] [] σ := by
    intro v1 v2 h1 h2 hF
    unfold F_X10_relativesOf_J47 at hF
    refine at_iload_n C 1 dX10_relativesOf_47 rfl rfl ?_
    refine at_iconst C dX10_relativesOf_48 ?_
    refine at_iload_n C 0 dX10_relativesOf_49 rfl rfl ?_
    refine at_ishl C dX10_relativesOf_50 ?_
    refine at_iconst C dX10_relativesOf_51 ?_
    refine at_ixor C dX10_relativesOf_52 ?_
    refine at_iand C dX10_relativesOf_53 ?_
    obtain rfl := Option.some.inj hF
    exact at_iret C hr hlk (jand_R _ _) ok dX10_relativesOf_54
  refine at_iload_n C 3 dX10_relativesOf_9 rfl rfl ?_
  refine at_iload_n C 1 dX10_relativesOf_10 rfl rfl ?_
  refine at_icmp_ge C h3 h1 dX10_relativesOf_11 rfl (fun c2 => ?_) (fun c2 => ?_)
  · have hF := (if_pos c2).symm.trans hF
    refine at_sub [1, 2] rfl ?_
    exact J47 v1 v2 h1 h2 hF
  · have hF := (if_neg c2).symm.trans hF
    have J41 : ∀ (v2 : Int) (v3 : Int), inR v2 → inR v3 → F_X10_relativesOf_J41 N nx9 v1 v2 v3 σ = some res → At p l e rm_X10_relativesOf s m args below meth c g 4 (MQ below (QI g s.heap.size res σ inR) args s 0 0 (AA g s.heap.size)) 41 [(0, vr g 46), (1, vi v1), (2, vi v2), (3, vi v3)] [] σ := by
      intro v2 v3 h2 h3 hF
      unfold F_X10_relativesOf_J41 at hF
      refine at_iinc C 3 dX10_relativesOf_41 rfl (Nat.le_of_ble_eq_true rfl) rfl ?_
      refine at_goto C dX10_relativesOf_44 rfl ?_
      refine at_sub [1, 2, 3, 0] rfl ?_
      exact ih9 _ hF h2 (ja_R _ _)
    refine at_aload_n C 0 dX10_relativesOf_14 rfl rfl ?_
    refine at_getr (k' := 50) C 4 fw_10_22 kd46 rfl (Nat.le_of_ble_eq_true rfl) rfl rfl dX10_relativesOf_15 ?_
    refine at_iload_n C 3 dX10_relativesOf_18 rfl rfl ?_
    obtain ⟨b3, hF⟩ := inb_some hF
    refine at_iaload C kd50 b3 dX10_relativesOf_19 ?_
    refine at_iload_n C 1 dX10_relativesOf_20 rfl rfl ?_
    refine at_ishr C dX10_relativesOf_21 ?_
    refine at_iconst C dX10_relativesOf_22 ?_
    refine at_iand C dX10_relativesOf_23 ?_
    refine at_iconst C dX10_relativesOf_24 ?_
    refine at_icmp_ne C (jand_R _ _) (isB.r (Or.inr rfl)) dX10_relativesOf_25 rfl (fun c4 => ?_) (fun c4 => ?_)
    · have hF := (if_neg c4).symm.trans hF
      exact J41 v2 v3 h2 h3 hF
    · have hF := (if_pos c4).symm.trans hF
      refine at_iload_n C 2 dX10_relativesOf_28 rfl rfl ?_
      refine at_aload_n C 0 dX10_relativesOf_29 rfl rfl ?_
      refine at_getr (k' := 50) C 4 fw_10_22 kd46 rfl (Nat.le_of_ble_eq_true rfl) rfl rfl dX10_relativesOf_30 ?_
      refine at_iload_n C 3 dX10_relativesOf_33 rfl rfl ?_
      refine at_iaload C kd50 b3 dX10_relativesOf_34 ?_
      refine at_iconst C dX10_relativesOf_35 ?_
      refine at_iload_n C 3 dX10_relativesOf_36 rfl rfl ?_
      refine at_ishl C dX10_relativesOf_37 ?_
      refine at_ior C dX10_relativesOf_38 ?_
      refine at_ior C dX10_relativesOf_39 ?_
      refine at_istore_n C dX10_relativesOf_40 rfl (Nat.le_of_ble_eq_true rfl) rfl ?_
      refine at_sub [1, 2, 0, 3] rfl ?_
      exact J41 (jor v2 (jor (σ.1 50 v3) (jshl 1 v3))) v3 (jor_R _ _) h3 hF
abbrev rm_X4_fill : Room := { frames := 2, cells := 0, slots := 0, locals := 48 }
def F_X4_fill_J113 (N : Nat) (nx50 : (Int × Sto) → Option (Sto)) (v0 : Nat) (v1 : Nat) (v2 : Int) (v3 : Nat) (v4 : Int) (σ : Sto) : Option (Sto) :=
  nx50 ((ja v4 1), σ)
def F_X4_fill_B79 (N : Nat) (nx50 : (Int × Sto) → Option (Sto)) (nx79 : (Int × Sto) → Option (Sto)) (v0 : Nat) (v1 : Nat) (v2 : Int) (v3 : Nat) (v4 : Int) (v5 : Int) (σ : Sto) : Option (Sto) :=
  if (σ.1 v1 8) ≤ v5 then (F_X4_fill_J113 N nx50 v0 v1 v2 v3 v4 σ) else ((F_X10_relativesOf N v5 σ).bind (fun q7 => inb (ja (jm v4 8) v5) 200 (nx79 ((ja v5 1), (upI σ (v0 + 2) (ja (jm v4 8) v5) q7)))))
def F_X4_fill_B50 (N : Nat) (nx50 : (Int × Sto) → Option (Sto)) (v0 : Nat) (v1 : Nat) (v2 : Int) (v3 : Nat) (v4 : Int) (σ : Sto) : Option (Sto) :=
  if (σ.1 v0 2) ≤ v4 then (some σ) else (inb v4 25 ((F_X10_load N v1 (σ.1 (v0 + 1) v4) σ).bind (fun q4 => (F_X10_judge N v2 q4).bind (fun q5 => loopK (fun q nx79 => F_X4_fill_B79 N nx50 nx79 v0 v1 v2 v3 v4 q.1 q.2) N (0, q5)))))
def F_X4_fill_J47 (N : Nat)  (v0 : Nat) (v1 : Nat) (v2 : Int) (v3 : Nat) (σ : Sto) : Option (Sto) :=
  loopK (fun q nx50 => F_X4_fill_B50 N  nx50 v0 v1 v2 v3 q.1 q.2) N (0, σ)
def F_X4_fill_B15 (N : Nat) (nx15 : (Int × Sto) → Option (Sto)) (v0 : Nat) (v1 : Nat) (v2 : Int) (v3 : Nat) (v4 : Int) (σ : Sto) : Option (Sto) :=
  if (σ.1 (v1 + 8) 4) ≤ v4 then (F_X4_fill_J47 N  v0 v1 v2 v3 σ) else (inb v4 24 ((F_X4_addStart N v0 (σ.1 ((v1 + 8) + 4) v4) σ).bind (fun q11 => nx15 ((ja v4 1), q11))))
def F_X4_fill (N : Nat) (v0 : Nat) (v1 : Nat) (v2 : Int) (v3 : Nat) (σ : Sto) : Option (Sto) :=
  inb 0 25 (loopK (fun q nx15 => F_X4_fill_B15 N  nx15 v0 v1 v2 v3 q.1 q.2) N (0, (upI (upI σ (v0 + 1) 0 0) v0 2 1)))
set_option maxHeartbeats 4000000 in
set_option maxRecDepth 100000 in
theorem c_X4_fill (l : Launch) (g : Geo) (N : Nat) (v0 : Nat) (v1 : Nat) (v2 : Int) (v3 : Nat) (σ : Sto) (res : Sto) (hk0 : knd v0 = (14, 3)) (hk1 : knd v1 = (10, 14)) (h2 : inR v2) (hk3 : knd v3 = (20, 6)) (ok : OK σ) (hF : F_X4_fill N v0 v1 v2 v3 σ = some res) : MtV l g yX4_fill cX4_fill 6 none rm_X4_fill [vr g v0, vr g v1, vi v2, vr g v3] σ res := by
  intro sz
  refine Met.ofAt (own := RX4) (QQ := fun z => QV g z res) (by decide +kernel) (Nat.le_of_ble_eq_true rfl) rfl ?_
  intro p e s m args below meth c C hr hlk
  show At p l e rm_X4_fill s m args below meth c g 6 (MQ below (QV g s.heap.size res) args s 0 0 (AA g s.heap.size)) 0 [(0, vr g v0), (1, vr g v1), (2, vi v2), (3, vr g v3)] [] σ
  unfold F_X4_fill at hF
  refine at_aload_n C 0 dX4_fill_0 rfl rfl ?_
  refine at_getr C 1 fw_4_9 hk0 rfl (Nat.le_of_ble_eq_true rfl) rfl rfl dX4_fill_1 ?_
  refine at_iconst C dX4_fill_4 ?_
  refine at_iconst C dX4_fill_5 ?_
  obtain ⟨b1, hF⟩ := inb_some hF
  refine at_iastore C (kf4_0 hk0) b1 dX4_fill_6 ?_
  refine at_aload_n C 0 dX4_fill_7 rfl rfl ?_
  refine at_iconst C dX4_fill_8 ?_
  refine at_puti (jz := 2) C fu_4_18 hk0 rfl (Nat.le_of_ble_eq_true rfl) rfl rfl dX4_fill_9 ?_
  refine at_iconst C dX4_fill_12 ?_
  refine at_istore C dX4_fill_13 (Nat.le_of_ble_eq_true rfl) rfl ?_
  refine at_sub [1, 2, 3, 4, 0] rfl ?_
  refine loopK_ind (res := res) (P := fun (q : Int × Sto) => inR q.1 → OK q.2 → At p l e rm_X4_fill s m args below meth c g 6 (MQ below (QV g s.heap.size res) args s 0 0 (AA g s.heap.size)) 15 [(0, vr g v0), (1, vr g v1), (2, vi v2), (3, vr g v3), (4, vi q.1)] [] q.2) ?_ N _ hF (isB.r (Or.inl rfl)) (OK_up (OK_up ok (isB.r (Or.inl rfl))) (isB.r (Or.inr rfl)))
  intro nx15 q ih15 hF
  obtain ⟨v4, σ⟩ := q
  intro h4 ok
  have hF : F_X4_fill_B15 N  nx15 v0 v1 v2 v3 v4 σ = some res := hF
  unfold F_X4_fill_B15 at hF
  have J47 : ∀ (v0 : Nat) (v1 : Nat) (v2 : Int) (v3 : Nat) (σ : Sto), knd v0 = (14, 3) → knd v1 = (10, 14) → inR v2 → knd v3 = (20, 6) → OK σ → F_X4_fill_J47 N  v0 v1 v2 v3 σ = some res → At p l e rm_X4_fill s m args below meth c g 6 (MQ below (QV g s.heap.size res) args s 0 0 (AA g s.heap.size)) 47 [(0, vr g v0), (1, vr g v1), (2, vi v2), (3, vr g v3)] [] σ := by
    intro v0 v1 v2 v3 σ hk0 hk1 h2 hk3 ok hF
    unfold F_X4_fill_J47 at hF
    refine at_iconst C dX4_fill_47 ?_
    refine at_istore C dX4_fill_48 (Nat.le_of_ble_eq_true rfl) rfl ?_
    refine at_sub [1, 2, 3, 4, 0] rfl ?_
    refine loopK_ind (res := res) (P := fun (q : Int × Sto) => inR q.1 → OK q.2 → At p l e rm_X4_fill s m args below meth c g 6 (MQ below (QV g s.heap.size res) args s 0 0 (AA g s.heap.size)) 50 [(0, vr g v0), (1, vr g v1), (2, vi v2), (3, vr g v3), (4, vi q.1)] [] q.2) ?_ N _ hF (isB.r (Or.inl rfl)) ok
    intro nx50 q ih50 hF
    obtain ⟨v4, σ⟩ := q
    intro h4 ok
    have hF : F_X4_fill_B50 N  nx50 v0 v1 v2 v3 v4 σ = some res := hF
    unfold F_X4_fill_B50 at hF
    refine at_iload C 4 dX4_fill_50 rfl ?_
    refine at_aload_n C 0 dX4_fill_52 rfl rfl ?_
    refine at_geti (jz := 2) C fw_4_18 hk0 rfl (Nat.le_of_ble_eq_true rfl) rfl rfl dX4_fill_53 ?_
    refine at_icmp_ge C h4 (ok _ _) dX4_fill_56 rfl (fun c2 => ?_) (fun c2 => ?_)
    · have hF := (if_pos c2).symm.trans hF
      obtain rfl := Option.some.inj hF
      exact at_vret C hr hlk ok dX4_fill_119
    · have hF := (if_neg c2).symm.trans hF
      refine at_aload_n C 3 dX4_fill_59 rfl rfl ?_
      refine at_aload_n C 1 dX4_fill_60 rfl rfl ?_
      refine at_aload_n C 0 dX4_fill_61 rfl rfl ?_
      refine at_getr C 1 fw_4_9 hk0 rfl (Nat.le_of_ble_eq_true rfl) rfl rfl dX4_fill_62 ?_
      refine at_iload C 4 dX4_fill_65 rfl ?_
      obtain ⟨b3, hF⟩ := inb_some hF
      refine at_iaload C (kf4_0 hk0) b3 dX4_fill_67 ?_
      obtain ⟨q4, eq4, hF⟩ := bind_some' hF
      refine at_callVv (ci := 10) C (c_X10_load l g N v1 (σ.1 (v0 + 1) v4) σ q4 hk1 (ok _ _) ok eq4) kv_X10_load w808 hk3 rfl rfl rfl rfl (Nat.le_of_ble_eq_true rfl) ⟨rfl, rfl, (Nat.le_of_ble_eq_true rfl), (Nat.le_of_ble_eq_true rfl)⟩ dX4_fill_68 (fun okq4 => ?_)
      refine at_aload_n C 3 dX4_fill_71 rfl rfl ?_
      refine at_iload_n C 2 dX4_fill_72 rfl rfl ?_
      obtain ⟨q5, eq5, hF⟩ := bind_some' hF
      refine at_callVv (ci := 10) C (c_X10_judge l g N v2 q4 q5 h2 okq4 eq5) kv_X10_judge w809 hk3 rfl rfl rfl rfl (Nat.le_of_ble_eq_true rfl) ⟨rfl, rfl, (Nat.le_of_ble_eq_true rfl), (Nat.le_of_ble_eq_true rfl)⟩ dX4_fill_73 (fun okq5 => ?_)
      refine at_iconst C dX4_fill_76 ?_
      refine at_istore C dX4_fill_77 (Nat.le_of_ble_eq_true rfl) rfl ?_
      refine at_sub [1, 2, 3, 4, 5, 0] rfl ?_
      refine loopK_ind (res := res) (P := fun (q : Int × Sto) => inR q.1 → OK q.2 → At p l e rm_X4_fill s m args below meth c g 6 (MQ below (QV g s.heap.size res) args s 0 0 (AA g s.heap.size)) 79 [(0, vr g v0), (1, vr g v1), (2, vi v2), (3, vr g v3), (4, vi v4), (5, vi q.1)] [] q.2) ?_ N _ hF (isB.r (Or.inl rfl)) okq5
      intro nx79 q ih79 hF
      obtain ⟨v5, σ⟩ := q
      intro h5 ok
      have hF : F_X4_fill_B79 N nx50 nx79 v0 v1 v2 v3 v4 v5 σ = some res := hF
      unfold F_X4_fill_B79 at hF
      have J113 : ∀ (v4 : Int) (σ : Sto), inR v4 → OK σ → F_X4_fill_J113 N nx50 v0 v1 v2 v3 v4 σ = some res → At p l e rm_X4_fill s m args below meth c g 6 (MQ below (QV g s.heap.size res) args s 0 0 (AA g s.heap.size)) 113 [(0, vr g v0), (1, vr g v1), (2, vi v2), (3, vr g v3), (4, vi v4)] [] σ := by
        intro v4 σ h4 ok hF
        unfold F_X4_fill_J113 at hF
        refine at_iinc C 4 dX4_fill_113 rfl (Nat.le_of_ble_eq_true rfl) rfl ?_
        refine at_goto C dX4_fill_116 rfl ?_
        refine at_sub [1, 2, 3, 4, 0] rfl ?_
        exact ih50 _ hF (ja_R _ _) ok
      refine at_iload C 5 dX4_fill_79 rfl ?_
      refine at_aload_n C 1 dX4_fill_81 rfl rfl ?_
      refine at_geti (jz := 8) C fw_4_49 hk1 rfl (Nat.le_of_ble_eq_true rfl) rfl rfl dX4_fill_82 ?_
      refine at_icmp_ge C h5 (ok _ _) dX4_fill_85 rfl (fun c6 => ?_) (fun c6 => ?_)
      · have hF := (if_pos c6).symm.trans hF
        refine at_sub [0, 1, 2, 3, 4] rfl ?_
        exact J113 v4 σ h4 ok hF
      · have hF := (if_neg c6).symm.trans hF
        refine at_aload_n C 0 dX4_fill_88 rfl rfl ?_
        refine at_getr C 2 fw_4_15 hk0 rfl (Nat.le_of_ble_eq_true rfl) rfl rfl dX4_fill_89 ?_
        refine at_iload C 4 dX4_fill_92 rfl ?_
        refine at_bipush C dX4_fill_94 (by decide) ?_
        refine at_imul C dX4_fill_96 ?_
        refine at_iload C 5 dX4_fill_97 rfl ?_
        refine at_iadd C dX4_fill_99 ?_
        refine at_aload_n C 3 dX4_fill_100 rfl rfl ?_
        refine at_iload C 5 dX4_fill_101 rfl ?_
        obtain ⟨q7, eq7, hF⟩ := bind_some' hF
        refine at_callV (ci := 10) C (c_X10_relativesOf l g N v5 σ q7 h5 ok eq7) kv_X10_relativesOf w810 hk3 rfl rfl rfl rfl (Nat.le_of_ble_eq_true rfl) ⟨rfl, rfl, (Nat.le_of_ble_eq_true rfl), (Nat.le_of_ble_eq_true rfl)⟩ dX4_fill_103 (fun tq7 okq7 => ?_)
        obtain ⟨b8, hF⟩ := inb_some hF
        refine at_iastore C (kf4_1 hk0) b8 dX4_fill_106 ?_
        refine at_iinc C 5 dX4_fill_107 rfl (Nat.le_of_ble_eq_true rfl) rfl ?_
        refine at_goto C dX4_fill_110 rfl ?_
        refine at_sub [1, 2, 3, 4, 5, 0] rfl ?_
        exact ih79 _ hF (ja_R _ _) (OK_up ok tq7)
  refine at_iload C 4 dX4_fill_15 rfl ?_
  refine at_aload_n C 1 dX4_fill_17 rfl rfl ?_
  refine at_getr C 8 fw_4_22 hk1 rfl (Nat.le_of_ble_eq_true rfl) rfl rfl dX4_fill_18 ?_
  refine at_geti (jz := 4) C fw_4_28 (kf0_7 hk1) rfl (Nat.le_of_ble_eq_true rfl) rfl rfl dX4_fill_21 ?_
  refine at_icmp_ge C h4 (ok _ _) dX4_fill_24 rfl (fun c9 => ?_) (fun c9 => ?_)
  · have hF := (if_pos c9).symm.trans hF
    refine at_sub [0, 1, 2, 3] rfl ?_
    exact J47 v0 v1 v2 v3 σ hk0 hk1 h2 hk3 ok hF
  · have hF := (if_neg c9).symm.trans hF
    refine at_aload_n C 0 dX4_fill_27 rfl rfl ?_
    refine at_aload_n C 1 dX4_fill_28 rfl rfl ?_
    refine at_getr C 8 fw_4_22 hk1 rfl (Nat.le_of_ble_eq_true rfl) rfl rfl dX4_fill_29 ?_
    refine at_getr C 4 fw_4_33 (kf0_7 hk1) rfl (Nat.le_of_ble_eq_true rfl) rfl rfl dX4_fill_32 ?_
    refine at_iload C 4 dX4_fill_35 rfl ?_
    obtain ⟨b10, hF⟩ := inb_some hF
    refine at_iaload C (kf7_3 (kf0_7 hk1)) b10 dX4_fill_37 ?_
    obtain ⟨q11, eq11, hF⟩ := bind_some' hF
    refine at_callVv (ci := 4) C (c_X4_addStart l g N v0 (σ.1 ((v1 + 8) + 4) v4) σ q11 hk0 (ok _ _) ok eq11) kv_X4_addStart w804 hk0 rfl rfl rfl rfl (Nat.le_of_ble_eq_true rfl) ⟨rfl, rfl, (Nat.le_of_ble_eq_true rfl), (Nat.le_of_ble_eq_true rfl)⟩ dX4_fill_38 (fun okq11 => ?_)
    refine at_iinc C 4 dX4_fill_41 rfl (Nat.le_of_ble_eq_true rfl) rfl ?_
    refine at_goto C dX4_fill_44 rfl ?_
    refine at_sub [1, 2, 3, 4, 0] rfl ?_
    exact ih15 _ hF (ja_R _ _) okq11
abbrev rm_X4_endOf : Room := { frames := 0, cells := 0, slots := 0, locals := 0 }
def F_X4_endOf (N : Nat) (v0 : Nat) (v1 : Int) (σ : Sto) : Option (Int) :=
  if (σ.1 v0 2) ≤ (ja v1 1) then (some 999) else (inb (ja v1 1) 25 (some (js (σ.1 (v0 + 1) (ja v1 1)) 1)))
set_option maxHeartbeats 4000000 in
set_option maxRecDepth 100000 in
theorem c_X4_endOf (l : Launch) (g : Geo) (N : Nat) (v0 : Nat) (v1 : Int) (σ : Sto) (res : Int) (hk0 : knd v0 = (14, 3)) (h1 : inR v1) (ok : OK σ) (hF : F_X4_endOf N v0 v1 σ = some res) : MtI l g yX4_endOf cX4_endOf 2 (some .int) rm_X4_endOf [vr g v0, vi v1] σ res σ inR := by
  intro sz
  refine Met.ofAt (own := RX4) (QQ := fun z => QI g z res σ inR) (by decide +kernel) (Nat.le_of_ble_eq_true rfl) rfl ?_
  intro p e s m args below meth c C hr hlk
  show At p l e rm_X4_endOf s m args below meth c g 2 (MQ below (QI g s.heap.size res σ inR) args s 0 0 (AA g s.heap.size)) 0 [(0, vr g v0), (1, vi v1)] [] σ
  unfold F_X4_endOf at hF
  refine at_iload_n C 1 dX4_endOf_0 rfl rfl ?_
  refine at_iconst C dX4_endOf_1 ?_
  refine at_iadd C dX4_endOf_2 ?_
  refine at_aload_n C 0 dX4_endOf_3 rfl rfl ?_
  refine at_geti (jz := 2) C fw_4_18 hk0 rfl (Nat.le_of_ble_eq_true rfl) rfl rfl dX4_endOf_4 ?_
  refine at_icmp_ge C (ja_R _ _) (ok _ _) dX4_endOf_7 rfl (fun c1 => ?_) (fun c1 => ?_)
  · have hF := (if_pos c1).symm.trans hF
    refine at_sipush C dX4_endOf_23 (by decide) ?_
    obtain rfl := Option.some.inj hF
    exact at_iret C hr hlk ⟨by decide, by decide⟩ ok dX4_endOf_26
  · have hF := (if_neg c1).symm.trans hF
    refine at_aload_n C 0 dX4_endOf_10 rfl rfl ?_
    refine at_getr C 1 fw_4_9 hk0 rfl (Nat.le_of_ble_eq_true rfl) rfl rfl dX4_endOf_11 ?_
    refine at_iload_n C 1 dX4_endOf_14 rfl rfl ?_
    refine at_iconst C dX4_endOf_15 ?_
    refine at_iadd C dX4_endOf_16 ?_
    obtain ⟨b2, hF⟩ := inb_some hF
    refine at_iaload C (kf4_0 hk0) b2 dX4_endOf_17 ?_
    refine at_iconst C dX4_endOf_18 ?_
    refine at_isub C dX4_endOf_19 ?_
    refine at_goto C dX4_endOf_20 rfl ?_
    obtain rfl := Option.some.inj hF
    exact at_iret C hr hlk (js_R _ _) ok dX4_endOf_26
abbrev rm_X4_isTogether : Room := { frames := 0, cells := 0, slots := 0, locals := 0 }
def F_X4_isTogether (N : Nat) (v0 : Nat) (v1 : Int) (v2 : Int) (v3 : Int) (σ : Sto) : Option (Int) :=
  inb (ja (jm v1 8) v2) 200 (if (jand (jshr (σ.1 (v0 + 2) (ja (jm v1 8) v2)) v3) 1) = 1 then (some 1) else (some 0))
set_option maxHeartbeats 4000000 in
set_option maxRecDepth 100000 in
theorem c_X4_isTogether (l : Launch) (g : Geo) (N : Nat) (v0 : Nat) (v1 : Int) (v2 : Int) (v3 : Int) (σ : Sto) (res : Int) (hk0 : knd v0 = (14, 3)) (h1 : inR v1) (h2 : inR v2) (h3 : inR v3) (ok : OK σ) (hF : F_X4_isTogether N v0 v1 v2 v3 σ = some res) : MtI l g yX4_isTogether cX4_isTogether 4 (some .boolean) rm_X4_isTogether [vr g v0, vi v1, vi v2, vi v3] σ res σ isB := by
  intro sz
  refine Met.ofAt (own := RX4) (QQ := fun z => QI g z res σ isB) (by decide +kernel) (Nat.le_of_ble_eq_true rfl) rfl ?_
  intro p e s m args below meth c C hr hlk
  show At p l e rm_X4_isTogether s m args below meth c g 4 (MQ below (QI g s.heap.size res σ isB) args s 0 0 (AA g s.heap.size)) 0 [(0, vr g v0), (1, vi v1), (2, vi v2), (3, vi v3)] [] σ
  unfold F_X4_isTogether at hF
  refine at_aload_n C 0 dX4_isTogether_0 rfl rfl ?_
  refine at_getr C 2 fw_4_15 hk0 rfl (Nat.le_of_ble_eq_true rfl) rfl rfl dX4_isTogether_1 ?_
  refine at_iload_n C 1 dX4_isTogether_4 rfl rfl ?_
  refine at_bipush C dX4_isTogether_5 (by decide) ?_
  refine at_imul C dX4_isTogether_7 ?_
  refine at_iload_n C 2 dX4_isTogether_8 rfl rfl ?_
  refine at_iadd C dX4_isTogether_9 ?_
  obtain ⟨b1, hF⟩ := inb_some hF
  refine at_iaload C (kf4_1 hk0) b1 dX4_isTogether_10 ?_
  refine at_iload_n C 3 dX4_isTogether_11 rfl rfl ?_
  refine at_ishr C dX4_isTogether_12 ?_
  refine at_iconst C dX4_isTogether_13 ?_
  refine at_iand C dX4_isTogether_14 ?_
  refine at_iconst C dX4_isTogether_15 ?_
  refine at_icmp_ne C (jand_R _ _) (isB.r (Or.inr rfl)) dX4_isTogether_16 rfl (fun c2 => ?_) (fun c2 => ?_)
  · have hF := (if_neg c2).symm.trans hF
    refine at_iconst C dX4_isTogether_23 ?_
    obtain rfl := Option.some.inj hF
    exact at_zret C hr hlk (Or.inl rfl) ok dX4_isTogether_24
  · have hF := (if_pos c2).symm.trans hF
    refine at_iconst C dX4_isTogether_19 ?_
    refine at_goto C dX4_isTogether_20 rfl ?_
    obtain rfl := Option.some.inj hF
    exact at_zret C hr hlk (Or.inr rfl) ok dX4_isTogether_24
abbrev rm_X4_daysTogether : Room := { frames := 1, cells := 0, slots := 0, locals := 23 }
def F_X4_daysTogether_J71 (N : Nat) (nx6 : (Int × Int) → Option (Int)) (v0 : Nat) (v1 : Int) (v2 : Int) (v3 : Int) (v4 : Int) (v5 : Int) (v6 : Int) (σ : Sto) : Option (Int) :=
  nx6 (v5, (ja v6 1))
def F_X4_daysTogether_B6 (N : Nat) (nx6 : (Int × Int) → Option (Int)) (v0 : Nat) (v1 : Int) (v2 : Int) (v3 : Int) (v4 : Int) (v5 : Int) (v6 : Int) (σ : Sto) : Option (Int) :=
  if (σ.1 v0 2) ≤ v6 then (some v5) else (inb v6 25 ((F_X4_endOf N v0 v6 σ).bind (fun q3 => if (jmin v4 q3) < (jmax v3 (σ.1 (v0 + 1) v6)) then (F_X4_daysTogether_J71 N nx6 v0 v1 v2 v3 v4 v5 v6 σ) else ((F_X4_isTogether N v0 v6 v1 v2 σ).bind (fun q5 => if q5 = 0 then (F_X4_daysTogether_J71 N nx6 v0 v1 v2 v3 v4 v5 v6 σ) else (F_X4_daysTogether_J71 N nx6 v0 v1 v2 v3 v4 (ja v5 (ja (js (jmin v4 q3) (jmax v3 (σ.1 (v0 + 1) v6))) 1)) v6 σ))))))
def F_X4_daysTogether (N : Nat) (v0 : Nat) (v1 : Int) (v2 : Int) (v3 : Int) (v4 : Int) (σ : Sto) : Option (Int) :=
  loopK (fun q nx6 => F_X4_daysTogether_B6 N  nx6 v0 v1 v2 v3 v4 q.1 q.2 σ) N (0, 0)
set_option maxHeartbeats 4000000 in
set_option maxRecDepth 100000 in
theorem c_X4_daysTogether (l : Launch) (g : Geo) (N : Nat) (v0 : Nat) (v1 : Int) (v2 : Int) (v3 : Int) (v4 : Int) (σ : Sto) (res : Int) (hk0 : knd v0 = (14, 3)) (h1 : inR v1) (h2 : inR v2) (h3 : inR v3) (h4 : inR v4) (ok : OK σ) (hF : F_X4_daysTogether N v0 v1 v2 v3 v4 σ = some res) : MtI l g yX4_daysTogether cX4_daysTogether 9 (some .int) rm_X4_daysTogether [vr g v0, vi v1, vi v2, vi v3, vi v4] σ res σ inR := by
  intro sz
  refine Met.ofAt (own := RX4) (QQ := fun z => QI g z res σ inR) (by decide +kernel) (Nat.le_of_ble_eq_true rfl) rfl ?_
  intro p e s m args below meth c C hr hlk
  show At p l e rm_X4_daysTogether s m args below meth c g 9 (MQ below (QI g s.heap.size res σ inR) args s 0 0 (AA g s.heap.size)) 0 [(0, vr g v0), (1, vi v1), (2, vi v2), (3, vi v3), (4, vi v4)] [] σ
  unfold F_X4_daysTogether at hF
  refine at_iconst C dX4_daysTogether_0 ?_
  refine at_istore C dX4_daysTogether_1 (Nat.le_of_ble_eq_true rfl) rfl ?_
  refine at_iconst C dX4_daysTogether_3 ?_
  refine at_istore C dX4_daysTogether_4 (Nat.le_of_ble_eq_true rfl) rfl ?_
  refine at_sub [2, 3, 4, 5, 6, 1, 0] rfl ?_
  refine loopK_ind (res := res) (P := fun (q : Int × Int) => inR q.1 → inR q.2 → At p l e rm_X4_daysTogether s m args below meth c g 9 (MQ below (QI g s.heap.size res σ inR) args s 0 0 (AA g s.heap.size)) 6 [(0, vr g v0), (1, vi v1), (2, vi v2), (3, vi v3), (4, vi v4), (5, vi q.1), (6, vi q.2)] [] σ) ?_ N _ hF (isB.r (Or.inl rfl)) (isB.r (Or.inl rfl))
  intro nx6 q ih6 hF
  obtain ⟨v5, v6⟩ := q
  intro h5 h6
  have hF : F_X4_daysTogether_B6 N  nx6 v0 v1 v2 v3 v4 v5 v6 σ = some res := hF
  unfold F_X4_daysTogether_B6 at hF
  refine at_iload C 6 dX4_daysTogether_6 rfl ?_
  refine at_aload_n C 0 dX4_daysTogether_8 rfl rfl ?_
  refine at_geti (jz := 2) C fw_4_18 hk0 rfl (Nat.le_of_ble_eq_true rfl) rfl rfl dX4_daysTogether_9 ?_
  refine at_icmp_ge C h6 (ok _ _) dX4_daysTogether_12 rfl (fun c1 => ?_) (fun c1 => ?_)
  · have hF := (if_pos c1).symm.trans hF
    refine at_iload C 5 dX4_daysTogether_77 rfl ?_
    obtain rfl := Option.some.inj hF
    exact at_iret C hr hlk h5 ok dX4_daysTogether_79
  · have hF := (if_neg c1).symm.trans hF
    have J71 : ∀ (v5 : Int) (v6 : Int), inR v5 → inR v6 → F_X4_daysTogether_J71 N nx6 v0 v1 v2 v3 v4 v5 v6 σ = some res → At p l e rm_X4_daysTogether s m args below meth c g 9 (MQ below (QI g s.heap.size res σ inR) args s 0 0 (AA g s.heap.size)) 71 [(0, vr g v0), (1, vi v1), (2, vi v2), (3, vi v3), (4, vi v4), (5, vi v5), (6, vi v6)] [] σ := by
      intro v5 v6 h5 h6 hF
      unfold F_X4_daysTogether_J71 at hF
      refine at_iinc C 6 dX4_daysTogether_71 rfl (Nat.le_of_ble_eq_true rfl) rfl ?_
      refine at_goto C dX4_daysTogether_74 rfl ?_
      refine at_sub [1, 2, 3, 4, 5, 6, 0] rfl ?_
      exact ih6 _ hF h5 (ja_R _ _)
    refine at_iload_n C 3 dX4_daysTogether_15 rfl rfl ?_
    refine at_aload_n C 0 dX4_daysTogether_16 rfl rfl ?_
    refine at_getr C 1 fw_4_9 hk0 rfl (Nat.le_of_ble_eq_true rfl) rfl rfl dX4_daysTogether_17 ?_
    refine at_iload C 6 dX4_daysTogether_20 rfl ?_
    obtain ⟨b2, hF⟩ := inb_some hF
    refine at_iaload C (kf4_0 hk0) b2 dX4_daysTogether_22 ?_
    refine at_mmax C km_max w832 h3 (ok _ _) ⟨(Nat.le_of_ble_eq_true rfl), (Nat.le_of_ble_eq_true rfl)⟩ dX4_daysTogether_23 ?_
    refine at_istore C dX4_daysTogether_26 (Nat.le_of_ble_eq_true rfl) rfl ?_
    refine at_iload C 5 dX4_daysTogether_28 rfl ?_
    refine at_aload_n C 1 dX4_daysTogether_30 rfl rfl ?_
    refine at_iload C 7 dX4_daysTogether_31 rfl ?_
    obtain ⟨q3, eq3, hF⟩ := bind_some' hF
    refine at_callV (ci := 4) C (c_X4_endOf l g N v0 v6 σ q3 hk0 h6 ok eq3) kv_X4_endOf w833 hk0 rfl rfl rfl rfl (Nat.le_of_ble_eq_true rfl) ⟨rfl, rfl, (Nat.le_of_ble_eq_true rfl), (Nat.le_of_ble_eq_true rfl)⟩ dX4_daysTogether_33 (fun tq3 okq3 => ?_)
    refine at_mmin C km_min w837 h4 tq3 ⟨(Nat.le_of_ble_eq_true rfl), (Nat.le_of_ble_eq_true rfl)⟩ dX4_daysTogether_36 ?_
    refine at_istore C dX4_daysTogether_39 (Nat.le_of_ble_eq_true rfl) rfl ?_
    refine at_iload C 1 dX4_daysTogether_41 rfl ?_
    refine at_iload C 0 dX4_daysTogether_43 rfl ?_
    refine at_icmp_gt C (jmax_R h3 (ok _ _)) (jmin_R h4 tq3) dX4_daysTogether_45 rfl (fun c4 => ?_) (fun c4 => ?_)
    · have hF := (if_pos c4).symm.trans hF
      refine at_sub [2, 3, 4, 5, 6, 7, 8] rfl ?_
      exact J71 v5 v6 h5 h6 hF
    · have hF := (if_neg c4).symm.trans hF
      refine at_aload_n C 2 dX4_daysTogether_48 rfl rfl ?_
      refine at_iload C 8 dX4_daysTogether_49 rfl ?_
      refine at_iload_n C 3 dX4_daysTogether_51 rfl rfl ?_
      refine at_iload_n C 4 dX4_daysTogether_52 rfl rfl ?_
      obtain ⟨q5, eq5, hF⟩ := bind_some' hF
      refine at_callV (ci := 4) C (c_X4_isTogether l g N v0 v6 v1 v2 σ q5 hk0 h6 h1 h2 ok eq5) kv_X4_isTogether w838 hk0 rfl rfl rfl rfl (Nat.le_of_ble_eq_true rfl) ⟨rfl, rfl, (Nat.le_of_ble_eq_true rfl), (Nat.le_of_ble_eq_true rfl)⟩ dX4_daysTogether_53 (fun tq5 okq5 => ?_)
      refine at_if_eq C (isB.r tq5) dX4_daysTogether_56 rfl (fun c6 => ?_) (fun c6 => ?_)
      · have hF := (if_pos c6).symm.trans hF
        refine at_sub [2, 3, 4, 5, 6, 7, 8] rfl ?_
        exact J71 v5 v6 h5 h6 hF
      · have hF := (if_neg c6).symm.trans hF
        refine at_iload C 7 dX4_daysTogether_59 rfl ?_
        refine at_iload C 0 dX4_daysTogether_61 rfl ?_
        refine at_iload C 1 dX4_daysTogether_63 rfl ?_
        refine at_isub C dX4_daysTogether_65 ?_
        refine at_iconst C dX4_daysTogether_66 ?_
        refine at_iadd C dX4_daysTogether_67 ?_
        refine at_iadd C dX4_daysTogether_68 ?_
        refine at_istore C dX4_daysTogether_69 (Nat.le_of_ble_eq_true rfl) rfl ?_
        refine at_sub [3, 4, 5, 6, 7, 0, 8] rfl ?_
        exact J71 (ja v5 (ja (js (jmin v4 q3) (jmax v3 (σ.1 (v0 + 1) v6))) 1)) v6 (ja_R _ _) h6 hF
abbrev rm_X4_firstDay : Room := { frames := 1, cells := 0, slots := 0, locals := 23 }
def F_X4_firstDay_J20 (N : Nat)  (v0 : Nat) (v3 : Int) (σ : Sto) : Option (Int) :=
  inb v3 25 (some (σ.1 (v0 + 1) v3))
def F_X4_firstDay_B2 (N : Nat) (nx2 : (Int) → Option (Int)) (v0 : Nat) (v1 : Int) (v2 : Int) (v3 : Int) (σ : Sto) : Option (Int) :=
  if (σ.1 v0 2) ≤ v3 then (some (-2)) else ((F_X4_isTogether N v0 v3 v1 v2 σ).bind (fun q3 => if q3 = 0 then (nx2 (ja v3 1)) else (F_X4_firstDay_J20 N  v0 v3 σ)))
def F_X4_firstDay (N : Nat) (v0 : Nat) (v1 : Int) (v2 : Int) (σ : Sto) : Option (Int) :=
  loopK (fun q nx2 => F_X4_firstDay_B2 N  nx2 v0 v1 v2 q σ) N 0
set_option maxHeartbeats 4000000 in
set_option maxRecDepth 100000 in
theorem c_X4_firstDay (l : Launch) (g : Geo) (N : Nat) (v0 : Nat) (v1 : Int) (v2 : Int) (σ : Sto) (res : Int) (hk0 : knd v0 = (14, 3)) (h1 : inR v1) (h2 : inR v2) (ok : OK σ) (hF : F_X4_firstDay N v0 v1 v2 σ = some res) : MtI l g yX4_firstDay cX4_firstDay 4 (some .int) rm_X4_firstDay [vr g v0, vi v1, vi v2] σ res σ inR := by
  intro sz
  refine Met.ofAt (own := RX4) (QQ := fun z => QI g z res σ inR) (by decide +kernel) (Nat.le_of_ble_eq_true rfl) rfl ?_
  intro p e s m args below meth c C hr hlk
  show At p l e rm_X4_firstDay s m args below meth c g 4 (MQ below (QI g s.heap.size res σ inR) args s 0 0 (AA g s.heap.size)) 0 [(0, vr g v0), (1, vi v1), (2, vi v2)] [] σ
  unfold F_X4_firstDay at hF
  refine at_iconst C dX4_firstDay_0 ?_
  refine at_istore_n C dX4_firstDay_1 rfl (Nat.le_of_ble_eq_true rfl) rfl ?_
  refine at_sub [1, 2, 3, 0] rfl ?_
  refine loopK_ind (res := res) (P := fun (q : Int) => inR q → At p l e rm_X4_firstDay s m args below meth c g 4 (MQ below (QI g s.heap.size res σ inR) args s 0 0 (AA g s.heap.size)) 2 [(0, vr g v0), (1, vi v1), (2, vi v2), (3, vi q)] [] σ) ?_ N _ hF (isB.r (Or.inl rfl))
  intro nx2 v3 ih2 hF h3
  have hF : F_X4_firstDay_B2 N  nx2 v0 v1 v2 v3 σ = some res := hF
  unfold F_X4_firstDay_B2 at hF
  refine at_iload_n C 3 dX4_firstDay_2 rfl rfl ?_
  refine at_aload_n C 0 dX4_firstDay_3 rfl rfl ?_
  refine at_geti (jz := 2) C fw_4_18 hk0 rfl (Nat.le_of_ble_eq_true rfl) rfl rfl dX4_firstDay_4 ?_
  refine at_icmp_ge C h3 (ok _ _) dX4_firstDay_7 rfl (fun c1 => ?_) (fun c1 => ?_)
  · have hF := (if_pos c1).symm.trans hF
    refine at_bipush C dX4_firstDay_33 (by decide) ?_
    obtain rfl := Option.some.inj hF
    exact at_iret C hr hlk ⟨by decide, by decide⟩ ok dX4_firstDay_35
  · have hF := (if_neg c1).symm.trans hF
    have J20 : ∀ (v0 : Nat) (v3 : Int), knd v0 = (14, 3) → inR v3 → F_X4_firstDay_J20 N  v0 v3 σ = some res → At p l e rm_X4_firstDay s m args below meth c g 4 (MQ below (QI g s.heap.size res σ inR) args s 0 0 (AA g s.heap.size)) 20 [(0, vr g v0), (3, vi v3)] [] σ := by
      intro v0 v3 hk0 h3 hF
      unfold F_X4_firstDay_J20 at hF
      refine at_aload_n C 0 dX4_firstDay_20 rfl rfl ?_
      refine at_getr C 1 fw_4_9 hk0 rfl (Nat.le_of_ble_eq_true rfl) rfl rfl dX4_firstDay_21 ?_
      refine at_iload_n C 1 dX4_firstDay_24 rfl rfl ?_
      obtain ⟨b2, hF⟩ := inb_some hF
      refine at_iaload C (kf4_0 hk0) b2 dX4_firstDay_25 ?_
      obtain rfl := Option.some.inj hF
      exact at_iret C hr hlk (ok _ _) ok dX4_firstDay_26
    refine at_aload_n C 0 dX4_firstDay_10 rfl rfl ?_
    refine at_iload_n C 3 dX4_firstDay_11 rfl rfl ?_
    refine at_iload_n C 1 dX4_firstDay_12 rfl rfl ?_
    refine at_iload_n C 2 dX4_firstDay_13 rfl rfl ?_
    obtain ⟨q3, eq3, hF⟩ := bind_some' hF
    refine at_callV (ci := 4) C (c_X4_isTogether l g N v0 v3 v1 v2 σ q3 hk0 h3 h1 h2 ok eq3) kv_X4_isTogether w838 hk0 rfl rfl rfl rfl (Nat.le_of_ble_eq_true rfl) ⟨rfl, rfl, (Nat.le_of_ble_eq_true rfl), (Nat.le_of_ble_eq_true rfl)⟩ dX4_firstDay_14 (fun tq3 okq3 => ?_)
    refine at_if_eq C (isB.r tq3) dX4_firstDay_17 rfl (fun c4 => ?_) (fun c4 => ?_)
    · have hF := (if_pos c4).symm.trans hF
      refine at_iinc C 3 dX4_firstDay_27 rfl (Nat.le_of_ble_eq_true rfl) rfl ?_
      refine at_goto C dX4_firstDay_30 rfl ?_
      refine at_sub [1, 2, 3, 0] rfl ?_
      exact ih2 _ hF (ja_R _ _)
    · have hF := (if_neg c4).symm.trans hF
      refine at_sub [0, 3] rfl ?_
      exact J20 v0 v3 hk0 h3 hF
abbrev rm_X4_lastDay : Room := { frames := 1, cells := 0, slots := 0, locals := 23 }
def F_X4_lastDay_J21 (N : Nat)  (v0 : Nat) (v3 : Int) (σ : Sto) : Option (Int) :=
  (F_X4_endOf N v0 v3 σ).bind (fun q2 => some q2)
def F_X4_lastDay_B7 (N : Nat) (nx7 : (Int) → Option (Int)) (v0 : Nat) (v1 : Int) (v2 : Int) (v3 : Int) (σ : Sto) : Option (Int) :=
  if v3 < 0 then (some (-2)) else ((F_X4_isTogether N v0 v3 v1 v2 σ).bind (fun q3 => if q3 = 0 then (nx7 (ja v3 (-1))) else (F_X4_lastDay_J21 N  v0 v3 σ)))
def F_X4_lastDay (N : Nat) (v0 : Nat) (v1 : Int) (v2 : Int) (σ : Sto) : Option (Int) :=
  loopK (fun q nx7 => F_X4_lastDay_B7 N  nx7 v0 v1 v2 q σ) N (js (σ.1 v0 2) 1)
set_option maxHeartbeats 4000000 in
set_option maxRecDepth 100000 in
theorem c_X4_lastDay (l : Launch) (g : Geo) (N : Nat) (v0 : Nat) (v1 : Int) (v2 : Int) (σ : Sto) (res : Int) (hk0 : knd v0 = (14, 3)) (h1 : inR v1) (h2 : inR v2) (ok : OK σ) (hF : F_X4_lastDay N v0 v1 v2 σ = some res) : MtI l g yX4_lastDay cX4_lastDay 4 (some .int) rm_X4_lastDay [vr g v0, vi v1, vi v2] σ res σ inR := by
  intro sz
  refine Met.ofAt (own := RX4) (QQ := fun z => QI g z res σ inR) (by decide +kernel) (Nat.le_of_ble_eq_true rfl) rfl ?_
  intro p e s m args below meth c C hr hlk
  show At p l e rm_X4_lastDay s m args below meth c g 4 (MQ below (QI g s.heap.size res σ inR) args s 0 0 (AA g s.heap.size)) 0 [(0, vr g v0), (1, vi v1), (2, vi v2)] [] σ
  unfold F_X4_lastDay at hF
  refine at_aload_n C 0 dX4_lastDay_0 rfl rfl ?_
  refine at_geti (jz := 2) C fw_4_18 hk0 rfl (Nat.le_of_ble_eq_true rfl) rfl rfl dX4_lastDay_1 ?_
  refine at_iconst C dX4_lastDay_4 ?_
  refine at_isub C dX4_lastDay_5 ?_
  refine at_istore_n C dX4_lastDay_6 rfl (Nat.le_of_ble_eq_true rfl) rfl ?_
  refine at_sub [1, 2, 3, 0] rfl ?_
  refine loopK_ind (res := res) (P := fun (q : Int) => inR q → At p l e rm_X4_lastDay s m args below meth c g 4 (MQ below (QI g s.heap.size res σ inR) args s 0 0 (AA g s.heap.size)) 7 [(0, vr g v0), (1, vi v1), (2, vi v2), (3, vi q)] [] σ) ?_ N _ hF (js_R _ _)
  intro nx7 v3 ih7 hF h3
  have hF : F_X4_lastDay_B7 N  nx7 v0 v1 v2 v3 σ = some res := hF
  unfold F_X4_lastDay_B7 at hF
  refine at_iload_n C 3 dX4_lastDay_7 rfl rfl ?_
  refine at_if_lt C h3 dX4_lastDay_8 rfl (fun c1 => ?_) (fun c1 => ?_)
  · have hF := (if_pos c1).symm.trans hF
    refine at_bipush C dX4_lastDay_33 (by decide) ?_
    obtain rfl := Option.some.inj hF
    exact at_iret C hr hlk ⟨by decide, by decide⟩ ok dX4_lastDay_35
  · have hF := (if_neg c1).symm.trans hF
    have J21 : ∀ (v0 : Nat) (v3 : Int), knd v0 = (14, 3) → inR v3 → F_X4_lastDay_J21 N  v0 v3 σ = some res → At p l e rm_X4_lastDay s m args below meth c g 4 (MQ below (QI g s.heap.size res σ inR) args s 0 0 (AA g s.heap.size)) 21 [(0, vr g v0), (3, vi v3)] [] σ := by
      intro v0 v3 hk0 h3 hF
      unfold F_X4_lastDay_J21 at hF
      refine at_aload_n C 0 dX4_lastDay_21 rfl rfl ?_
      refine at_iload_n C 1 dX4_lastDay_22 rfl rfl ?_
      obtain ⟨q2, eq2, hF⟩ := bind_some' hF
      refine at_callV (ci := 4) C (c_X4_endOf l g N v0 v3 σ q2 hk0 h3 ok eq2) kv_X4_endOf w833 hk0 rfl rfl rfl rfl (Nat.le_of_ble_eq_true rfl) ⟨rfl, rfl, (Nat.le_of_ble_eq_true rfl), (Nat.le_of_ble_eq_true rfl)⟩ dX4_lastDay_23 (fun tq2 okq2 => ?_)
      obtain rfl := Option.some.inj hF
      exact at_iret C hr hlk tq2 ok dX4_lastDay_26
    refine at_aload_n C 0 dX4_lastDay_11 rfl rfl ?_
    refine at_iload_n C 3 dX4_lastDay_12 rfl rfl ?_
    refine at_iload_n C 1 dX4_lastDay_13 rfl rfl ?_
    refine at_iload_n C 2 dX4_lastDay_14 rfl rfl ?_
    obtain ⟨q3, eq3, hF⟩ := bind_some' hF
    refine at_callV (ci := 4) C (c_X4_isTogether l g N v0 v3 v1 v2 σ q3 hk0 h3 h1 h2 ok eq3) kv_X4_isTogether w838 hk0 rfl rfl rfl rfl (Nat.le_of_ble_eq_true rfl) ⟨rfl, rfl, (Nat.le_of_ble_eq_true rfl), (Nat.le_of_ble_eq_true rfl)⟩ dX4_lastDay_15 (fun tq3 okq3 => ?_)
    refine at_if_eq C (isB.r tq3) dX4_lastDay_18 rfl (fun c4 => ?_) (fun c4 => ?_)
    · have hF := (if_pos c4).symm.trans hF
      refine at_iinc C 3 dX4_lastDay_27 rfl (Nat.le_of_ble_eq_true rfl) rfl ?_
      refine at_goto C dX4_lastDay_30 rfl ?_
      refine at_sub [1, 2, 3, 0] rfl ?_
      exact ih7 _ hF (ja_R _ _)
    · have hF := (if_neg c4).symm.trans hF
      refine at_sub [0, 3] rfl ?_
      exact J21 v0 v3 hk0 h3 hF
abbrev rm_X5_clear : Room := { frames := 0, cells := 0, slots := 0, locals := 0 }
def F_X5_clear (N : Nat) (v0 : Nat) (σ : Sto) : Option (Sto) :=
  some (upI σ v0 3 0)
set_option maxHeartbeats 4000000 in
set_option maxRecDepth 100000 in
theorem c_X5_clear (l : Launch) (g : Geo) (N : Nat) (v0 : Nat) (σ : Sto) (res : Sto) (hk0 : knd v0 = (15, 4)) (ok : OK σ) (hF : F_X5_clear N v0 σ = some res) : MtV l g yX5_clear cX5_clear 1 none rm_X5_clear [vr g v0] σ res := by
  intro sz
  refine Met.ofAt (own := RX5) (QQ := fun z => QV g z res) (by decide +kernel) (Nat.le_of_ble_eq_true rfl) rfl ?_
  intro p e s m args below meth c C hr hlk
  show At p l e rm_X5_clear s m args below meth c g 1 (MQ below (QV g s.heap.size res) args s 0 0 (AA g s.heap.size)) 0 [(0, vr g v0)] [] σ
  unfold F_X5_clear at hF
  refine at_aload_n C 0 dX5_clear_0 rfl rfl ?_
  refine at_iconst C dX5_clear_1 ?_
  refine at_puti (jz := 3) C fu_5_21 hk0 rfl (Nat.le_of_ble_eq_true rfl) rfl rfl dX5_clear_2 ?_
  obtain rfl := Option.some.inj hF
  exact at_vret C hr hlk (OK_up ok (isB.r (Or.inl rfl))) dX5_clear_5
abbrev rm_X5_has : Room := { frames := 0, cells := 0, slots := 0, locals := 0 }
def F_X5_has_J16 (N : Nat)   (σ : Sto) : Option (Int) :=
  some 0
def F_X5_has (N : Nat) (v0 : Nat) (v1 : Int) (σ : Sto) : Option (Int) :=
  if v1 < 0 then (F_X5_has_J16 N   σ) else (if (σ.1 v0 3) ≤ v1 then (F_X5_has_J16 N   σ) else (some 1))
set_option maxHeartbeats 4000000 in
set_option maxRecDepth 100000 in
theorem c_X5_has (l : Launch) (g : Geo) (N : Nat) (v0 : Nat) (v1 : Int) (σ : Sto) (res : Int) (hk0 : knd v0 = (15, 4)) (h1 : inR v1) (ok : OK σ) (hF : F_X5_has N v0 v1 σ = some res) : MtI l g yX5_has cX5_has 2 (some .boolean) rm_X5_has [vr g v0, vi v1] σ res σ isB := by
  intro sz
  refine Met.ofAt (own := RX5) (QQ := fun z => QI g z res σ isB) (by decide +kernel) (Nat.le_of_ble_eq_true rfl) rfl ?_
  intro p e s m args below meth c C hr hlk
  show At p l e rm_X5_has s m args below meth c g 2 (MQ below (QI g s.heap.size res σ isB) args s 0 0 (AA g s.heap.size)) 0 [(0, vr g v0), (1, vi v1)] [] σ
  unfold F_X5_has at hF
  have J16 : F_X5_has_J16 N   σ = some res → At p l e rm_X5_has s m args below meth c g 2 (MQ below (QI g s.heap.size res σ isB) args s 0 0 (AA g s.heap.size)) 16 [] [] σ := by
    intro   hF
    unfold F_X5_has_J16 at hF
    refine at_iconst C dX5_has_16 ?_
    obtain rfl := Option.some.inj hF
    exact at_zret C hr hlk (Or.inl rfl) ok dX5_has_17
  refine at_iload_n C 1 dX5_has_0 rfl rfl ?_
  refine at_if_lt C h1 dX5_has_1 rfl (fun c1 => ?_) (fun c1 => ?_)
  · have hF := (if_pos c1).symm.trans hF
    refine at_sub [] rfl ?_
    exact J16  hF
  · have hF := (if_neg c1).symm.trans hF
    refine at_iload_n C 1 dX5_has_4 rfl rfl ?_
    refine at_aload_n C 0 dX5_has_5 rfl rfl ?_
    refine at_geti (jz := 3) C fw_5_21 hk0 rfl (Nat.le_of_ble_eq_true rfl) rfl rfl dX5_has_6 ?_
    refine at_icmp_ge C h1 (ok _ _) dX5_has_9 rfl (fun c2 => ?_) (fun c2 => ?_)
    · have hF := (if_pos c2).symm.trans hF
      refine at_sub [] rfl ?_
      exact J16  hF
    · have hF := (if_neg c2).symm.trans hF
      refine at_iconst C dX5_has_12 ?_
      refine at_goto C dX5_has_13 rfl ?_
      obtain rfl := Option.some.inj hF
      exact at_zret C hr hlk (Or.inr rfl) ok dX5_has_17
abbrev rm_X5_copy : Room := { frames := 1, cells := 0, slots := 0, locals := 48 }
def F_X5_copy (N : Nat) (v0 : Nat) (v1 : Nat) (σ : Sto) : Option (Sto) :=
  grd ((0 : Int) ≤ 0 ∧ (0 : Int) ≤ 0 ∧ (0 : Int) ≤ 30 ∧ (0 : Int) + 30 ≤ 30 ∧ (0 : Int) + 30 ≤ 30) inferInstance (grd ((0 : Int) ≤ 0 ∧ (0 : Int) ≤ 0 ∧ (0 : Int) ≤ 30 ∧ (0 : Int) + 30 ≤ 30 ∧ (0 : Int) + 30 ≤ 30) inferInstance (grd ((0 : Int) ≤ 0 ∧ (0 : Int) ≤ 0 ∧ (0 : Int) ≤ 30 ∧ (0 : Int) + 30 ≤ 30 ∧ (0 : Int) + 30 ≤ 30) inferInstance (some (upI (cpI (cpI (cpI σ (v1 + 1) 0 (v0 + 1) 0 30) (v1 + 2) 0 (v0 + 2) 0 30) (v1 + 3) 0 (v0 + 3) 0 30) v0 3 ((cpI (cpI (cpI σ (v1 + 1) 0 (v0 + 1) 0 30) (v1 + 2) 0 (v0 + 2) 0 30) (v1 + 3) 0 (v0 + 3) 0 30).1 v1 3)))))
set_option maxHeartbeats 4000000 in
set_option maxRecDepth 100000 in
theorem c_X5_copy (l : Launch) (g : Geo) (N : Nat) (v0 : Nat) (v1 : Nat) (σ : Sto) (res : Sto) (hk0 : knd v0 = (15, 4)) (hk1 : knd v1 = (15, 4)) (ok : OK σ) (hF : F_X5_copy N v0 v1 σ = some res) : MtV l g yX5_copy cX5_copy 2 none rm_X5_copy [vr g v0, vr g v1] σ res := by
  intro sz
  refine Met.ofAt (own := RX5) (QQ := fun z => QV g z res) (by decide +kernel) (Nat.le_of_ble_eq_true rfl) rfl ?_
  intro p e s m args below meth c C hr hlk
  show At p l e rm_X5_copy s m args below meth c g 2 (MQ below (QV g s.heap.size res) args s 0 0 (AA g s.heap.size)) 0 [(0, vr g v0), (1, vr g v1)] [] σ
  unfold F_X5_copy at hF
  refine at_aload_n C 1 dX5_copy_0 rfl rfl ?_
  refine at_getr C 1 fw_5_9 hk1 rfl (Nat.le_of_ble_eq_true rfl) rfl rfl dX5_copy_1 ?_
  refine at_iconst C dX5_copy_4 ?_
  refine at_aload_n C 0 dX5_copy_5 rfl rfl ?_
  refine at_getr C 1 fw_5_9 hk0 rfl (Nat.le_of_ble_eq_true rfl) rfl rfl dX5_copy_6 ?_
  refine at_iconst C dX5_copy_9 ?_
  refine at_bipush C dX5_copy_10 (by decide) ?_
  obtain ⟨y1, hF⟩ := grd_some hF
  refine at_copy C kc w1176 (kf5_0 hk1) (kf5_0 hk0) y1 ⟨(Nat.le_of_ble_eq_true rfl), (Nat.le_of_ble_eq_true rfl)⟩ dX5_copy_12 ?_
  refine at_aload_n C 1 dX5_copy_15 rfl rfl ?_
  refine at_getr C 2 fw_5_15 hk1 rfl (Nat.le_of_ble_eq_true rfl) rfl rfl dX5_copy_16 ?_
  refine at_iconst C dX5_copy_19 ?_
  refine at_aload_n C 0 dX5_copy_20 rfl rfl ?_
  refine at_getr C 2 fw_5_15 hk0 rfl (Nat.le_of_ble_eq_true rfl) rfl rfl dX5_copy_21 ?_
  refine at_iconst C dX5_copy_24 ?_
  refine at_bipush C dX5_copy_25 (by decide) ?_
  obtain ⟨y2, hF⟩ := grd_some hF
  refine at_copy C kc w1176 (kf5_1 hk1) (kf5_1 hk0) y2 ⟨(Nat.le_of_ble_eq_true rfl), (Nat.le_of_ble_eq_true rfl)⟩ dX5_copy_27 ?_
  refine at_aload_n C 1 dX5_copy_30 rfl rfl ?_
  refine at_getr C 3 fw_5_18 hk1 rfl (Nat.le_of_ble_eq_true rfl) rfl rfl dX5_copy_31 ?_
  refine at_iconst C dX5_copy_34 ?_
  refine at_aload_n C 0 dX5_copy_35 rfl rfl ?_
  refine at_getr C 3 fw_5_18 hk0 rfl (Nat.le_of_ble_eq_true rfl) rfl rfl dX5_copy_36 ?_
  refine at_iconst C dX5_copy_39 ?_
  refine at_bipush C dX5_copy_40 (by decide) ?_
  obtain ⟨y3, hF⟩ := grd_some hF
  refine at_copy C kc w1176 (kf5_2 hk1) (kf5_2 hk0) y3 ⟨(Nat.le_of_ble_eq_true rfl), (Nat.le_of_ble_eq_true rfl)⟩ dX5_copy_42 ?_
  refine at_aload_n C 0 dX5_copy_45 rfl rfl ?_
  refine at_aload_n C 1 dX5_copy_46 rfl rfl ?_
  refine at_geti (jz := 3) C fw_5_21 hk1 rfl (Nat.le_of_ble_eq_true rfl) rfl rfl dX5_copy_47 ?_
  refine at_puti (jz := 3) C fu_5_21 hk0 rfl (Nat.le_of_ble_eq_true rfl) rfl rfl dX5_copy_50 ?_
  obtain rfl := Option.some.inj hF
  exact at_vret C hr hlk (OK_up (OK_cp (OK_cp (OK_cp ok))) ((OK_cp (OK_cp (OK_cp ok))) _ _)) dX5_copy_53
abbrev rm_X5_insert : Room := { frames := 0, cells := 0, slots := 0, locals := 0 }
def F_X5_insert_J88 (N : Nat)  (v0 : Nat) (v1 : Int) (v2 : Int) (v3 : Int) (v4 : Int) (σ : Sto) : Option (Sto) :=
  inb v1 30 (some (upI (upI (upI (upI σ (v0 + 1) v1 v2) (v0 + 2) v1 v3) (v0 + 3) v1 v4) v0 3 (ja ((upI (upI (upI σ (v0 + 1) v1 v2) (v0 + 2) v1 v3) (v0 + 3) v1 v4).1 v0 3) 1)))
def F_X5_insert_B28 (N : Nat) (nx28 : (Int × Sto) → Option (Sto)) (v0 : Nat) (v1 : Int) (v2 : Int) (v3 : Int) (v4 : Int) (v5 : Int) (σ : Sto) : Option (Sto) :=
  if v5 ≤ v1 then (F_X5_insert_J88 N  v0 v1 v2 v3 v4 σ) else (inb (js v5 1) 30 (inb v5 30 (nx28 ((ja v5 (-1)), (upI (upI (upI σ (v0 + 1) v5 (σ.1 (v0 + 1) (js v5 1))) (v0 + 2) v5 ((upI σ (v0 + 1) v5 (σ.1 (v0 + 1) (js v5 1))).1 (v0 + 2) (js v5 1))) (v0 + 3) v5 ((upI (upI σ (v0 + 1) v5 (σ.1 (v0 + 1) (js v5 1))) (v0 + 2) v5 ((upI σ (v0 + 1) v5 (σ.1 (v0 + 1) (js v5 1))).1 (v0 + 2) (js v5 1))).1 (v0 + 3) (js v5 1)))))))
def F_X5_insert (N : Nat) (v0 : Nat) (v1 : Int) (v2 : Int) (v3 : Int) (v4 : Int) (σ : Sto) : Option (Sto) :=
  if v1 < 0 then (some σ) else (if (σ.1 v0 3) < v1 then (some σ) else (if (σ.1 v0 3) < 30 then (loopK (fun q nx28 => F_X5_insert_B28 N  nx28 v0 v1 v2 v3 v4 q.1 q.2) N ((σ.1 v0 3), σ)) else (some σ)))
set_option maxHeartbeats 4000000 in
set_option maxRecDepth 100000 in
theorem c_X5_insert (l : Launch) (g : Geo) (N : Nat) (v0 : Nat) (v1 : Int) (v2 : Int) (v3 : Int) (v4 : Int) (σ : Sto) (res : Sto) (hk0 : knd v0 = (15, 4)) (h1 : inR v1) (h2 : inR v2) (h3 : inR v3) (h4 : inR v4) (ok : OK σ) (hF : F_X5_insert N v0 v1 v2 v3 v4 σ = some res) : MtV l g yX5_insert cX5_insert 6 none rm_X5_insert [vr g v0, vi v1, vi v2, vi v3, vi v4] σ res := by
  intro sz
  refine Met.ofAt (own := RX5) (QQ := fun z => QV g z res) (by decide +kernel) (Nat.le_of_ble_eq_true rfl) rfl ?_
  intro p e s m args below meth c C hr hlk
  show At p l e rm_X5_insert s m args below meth c g 6 (MQ below (QV g s.heap.size res) args s 0 0 (AA g s.heap.size)) 0 [(0, vr g v0), (1, vi v1), (2, vi v2), (3, vi v3), (4, vi v4)] [] σ
  unfold F_X5_insert at hF
  refine at_iload_n C 1 dX5_insert_0 rfl rfl ?_
  refine at_if_lt C h1 dX5_insert_1 rfl (fun c1 => ?_) (fun c1 => ?_)
  · have hF := (if_pos c1).symm.trans hF
    obtain rfl := Option.some.inj hF
    exact at_vret C hr hlk ok dX5_insert_21
  · have hF := (if_neg c1).symm.trans hF
    refine at_iload_n C 1 dX5_insert_4 rfl rfl ?_
    refine at_aload_n C 0 dX5_insert_5 rfl rfl ?_
    refine at_geti (jz := 3) C fw_5_21 hk0 rfl (Nat.le_of_ble_eq_true rfl) rfl rfl dX5_insert_6 ?_
    refine at_icmp_gt C h1 (ok _ _) dX5_insert_9 rfl (fun c2 => ?_) (fun c2 => ?_)
    · have hF := (if_pos c2).symm.trans hF
      obtain rfl := Option.some.inj hF
      exact at_vret C hr hlk ok dX5_insert_21
    · have hF := (if_neg c2).symm.trans hF
      refine at_aload_n C 0 dX5_insert_12 rfl rfl ?_
      refine at_geti (jz := 3) C fw_5_21 hk0 rfl (Nat.le_of_ble_eq_true rfl) rfl rfl dX5_insert_13 ?_
      refine at_bipush C dX5_insert_16 (by decide) ?_
      refine at_icmp_lt C (ok _ _) ⟨by decide, by decide⟩ dX5_insert_18 rfl (fun c3 => ?_) (fun c3 => ?_)
      · have hF := (if_pos c3).symm.trans hF
        refine at_aload_n C 0 dX5_insert_22 rfl rfl ?_
        refine at_geti (jz := 3) C fw_5_21 hk0 rfl (Nat.le_of_ble_eq_true rfl) rfl rfl dX5_insert_23 ?_
        refine at_istore C dX5_insert_26 (Nat.le_of_ble_eq_true rfl) rfl ?_
        refine at_sub [1, 2, 3, 4, 5, 0] rfl ?_
        refine loopK_ind (res := res) (P := fun (q : Int × Sto) => inR q.1 → OK q.2 → At p l e rm_X5_insert s m args below meth c g 6 (MQ below (QV g s.heap.size res) args s 0 0 (AA g s.heap.size)) 28 [(0, vr g v0), (1, vi v1), (2, vi v2), (3, vi v3), (4, vi v4), (5, vi q.1)] [] q.2) ?_ N _ hF (ok _ _) ok
        intro nx28 q ih28 hF
        obtain ⟨v5, σ⟩ := q
        intro h5 ok
        have hF : F_X5_insert_B28 N  nx28 v0 v1 v2 v3 v4 v5 σ = some res := hF
        unfold F_X5_insert_B28 at hF
        have J88 : ∀ (v0 : Nat) (v1 : Int) (v2 : Int) (v3 : Int) (v4 : Int) (σ : Sto), knd v0 = (15, 4) → inR v1 → inR v2 → inR v3 → inR v4 → OK σ → F_X5_insert_J88 N  v0 v1 v2 v3 v4 σ = some res → At p l e rm_X5_insert s m args below meth c g 6 (MQ below (QV g s.heap.size res) args s 0 0 (AA g s.heap.size)) 88 [(0, vr g v0), (1, vi v1), (2, vi v2), (3, vi v3), (4, vi v4)] [] σ := by
          intro v0 v1 v2 v3 v4 σ hk0 h1 h2 h3 h4 ok hF
          unfold F_X5_insert_J88 at hF
          refine at_aload_n C 0 dX5_insert_88 rfl rfl ?_
          refine at_getr C 1 fw_5_9 hk0 rfl (Nat.le_of_ble_eq_true rfl) rfl rfl dX5_insert_89 ?_
          refine at_iload_n C 1 dX5_insert_92 rfl rfl ?_
          refine at_iload_n C 2 dX5_insert_93 rfl rfl ?_
          obtain ⟨b4, hF⟩ := inb_some hF
          refine at_iastore C (kf5_0 hk0) b4 dX5_insert_94 ?_
          refine at_aload_n C 0 dX5_insert_95 rfl rfl ?_
          refine at_getr C 2 fw_5_15 hk0 rfl (Nat.le_of_ble_eq_true rfl) rfl rfl dX5_insert_96 ?_
          refine at_iload_n C 1 dX5_insert_99 rfl rfl ?_
          refine at_iload_n C 3 dX5_insert_100 rfl rfl ?_
          refine at_iastore C (kf5_1 hk0) b4 dX5_insert_101 ?_
          refine at_aload_n C 0 dX5_insert_102 rfl rfl ?_
          refine at_getr C 3 fw_5_18 hk0 rfl (Nat.le_of_ble_eq_true rfl) rfl rfl dX5_insert_103 ?_
          refine at_iload_n C 1 dX5_insert_106 rfl rfl ?_
          refine at_iload C 4 dX5_insert_107 rfl ?_
          refine at_iastore C (kf5_2 hk0) b4 dX5_insert_109 ?_
          refine at_aload_n C 0 dX5_insert_110 rfl rfl ?_
          refine at_dup C dX5_insert_111 rfl ?_
          refine at_geti (jz := 3) C fw_5_21 hk0 rfl (Nat.le_of_ble_eq_true rfl) rfl rfl dX5_insert_112 ?_
          refine at_iconst C dX5_insert_115 ?_
          refine at_iadd C dX5_insert_116 ?_
          refine at_puti (jz := 3) C fu_5_21 hk0 rfl (Nat.le_of_ble_eq_true rfl) rfl rfl dX5_insert_117 ?_
          obtain rfl := Option.some.inj hF
          exact at_vret C hr hlk (OK_up (OK_up (OK_up (OK_up ok h2) h3) h4) (ja_R _ _)) dX5_insert_120
        refine at_iload C 5 dX5_insert_28 rfl ?_
        refine at_iload_n C 1 dX5_insert_30 rfl rfl ?_
        refine at_icmp_le C h5 h1 dX5_insert_31 rfl (fun c5 => ?_) (fun c5 => ?_)
        · have hF := (if_pos c5).symm.trans hF
          refine at_sub [0, 1, 2, 3, 4] rfl ?_
          exact J88 v0 v1 v2 v3 v4 σ hk0 h1 h2 h3 h4 ok hF
        · have hF := (if_neg c5).symm.trans hF
          refine at_aload_n C 0 dX5_insert_34 rfl rfl ?_
          refine at_getr C 1 fw_5_9 hk0 rfl (Nat.le_of_ble_eq_true rfl) rfl rfl dX5_insert_35 ?_
          refine at_iload C 5 dX5_insert_38 rfl ?_
          refine at_aload_n C 0 dX5_insert_40 rfl rfl ?_
          refine at_getr C 1 fw_5_9 hk0 rfl (Nat.le_of_ble_eq_true rfl) rfl rfl dX5_insert_41 ?_
          refine at_iload C 5 dX5_insert_44 rfl ?_
          refine at_iconst C dX5_insert_46 ?_
          refine at_isub C dX5_insert_47 ?_
          obtain ⟨b6, hF⟩ := inb_some hF
          refine at_iaload C (kf5_0 hk0) b6 dX5_insert_48 ?_
          obtain ⟨b7, hF⟩ := inb_some hF
          refine at_iastore C (kf5_0 hk0) b7 dX5_insert_49 ?_
          refine at_aload_n C 0 dX5_insert_50 rfl rfl ?_
          refine at_getr C 2 fw_5_15 hk0 rfl (Nat.le_of_ble_eq_true rfl) rfl rfl dX5_insert_51 ?_
          refine at_iload C 5 dX5_insert_54 rfl ?_
          refine at_aload_n C 0 dX5_insert_56 rfl rfl ?_
          refine at_getr C 2 fw_5_15 hk0 rfl (Nat.le_of_ble_eq_true rfl) rfl rfl dX5_insert_57 ?_
          refine at_iload C 5 dX5_insert_60 rfl ?_
          refine at_iconst C dX5_insert_62 ?_
          refine at_isub C dX5_insert_63 ?_
          refine at_iaload C (kf5_1 hk0) b6 dX5_insert_64 ?_
          refine at_iastore C (kf5_1 hk0) b7 dX5_insert_65 ?_
          refine at_aload_n C 0 dX5_insert_66 rfl rfl ?_
          refine at_getr C 3 fw_5_18 hk0 rfl (Nat.le_of_ble_eq_true rfl) rfl rfl dX5_insert_67 ?_
          refine at_iload C 5 dX5_insert_70 rfl ?_
          refine at_aload_n C 0 dX5_insert_72 rfl rfl ?_
          refine at_getr C 3 fw_5_18 hk0 rfl (Nat.le_of_ble_eq_true rfl) rfl rfl dX5_insert_73 ?_
          refine at_iload C 5 dX5_insert_76 rfl ?_
          refine at_iconst C dX5_insert_78 ?_
          refine at_isub C dX5_insert_79 ?_
          refine at_iaload C (kf5_2 hk0) b6 dX5_insert_80 ?_
          refine at_iastore C (kf5_2 hk0) b7 dX5_insert_81 ?_
          refine at_iinc C 5 dX5_insert_82 rfl (Nat.le_of_ble_eq_true rfl) rfl ?_
          refine at_goto C dX5_insert_85 rfl ?_
          refine at_sub [1, 2, 3, 4, 5, 0] rfl ?_
          exact ih28 _ hF (ja_R _ _) (OK_up (OK_up (OK_up ok (ok _ _)) ((OK_up ok (ok _ _)) _ _)) ((OK_up (OK_up ok (ok _ _)) ((OK_up ok (ok _ _)) _ _)) _ _))
      · have hF := (if_neg c3).symm.trans hF
        obtain rfl := Option.some.inj hF
        exact at_vret C hr hlk ok dX5_insert_21
abbrev rm_X5_remove : Room := { frames := 1, cells := 0, slots := 0, locals := 21 }
def F_X5_remove_B21 (N : Nat) (nx21 : (Int × Sto) → Option (Sto)) (v0 : Nat) (v2 : Int) (σ : Sto) : Option (Sto) :=
  if (σ.1 v0 3) ≤ v2 then (some σ) else (inb (ja v2 1) 30 (inb v2 30 (nx21 ((ja v2 1), (upI (upI (upI σ (v0 + 1) v2 (σ.1 (v0 + 1) (ja v2 1))) (v0 + 2) v2 ((upI σ (v0 + 1) v2 (σ.1 (v0 + 1) (ja v2 1))).1 (v0 + 2) (ja v2 1))) (v0 + 3) v2 ((upI (upI σ (v0 + 1) v2 (σ.1 (v0 + 1) (ja v2 1))) (v0 + 2) v2 ((upI σ (v0 + 1) v2 (σ.1 (v0 + 1) (ja v2 1))).1 (v0 + 2) (ja v2 1))).1 (v0 + 3) (ja v2 1)))))))
def F_X5_remove (N : Nat) (v0 : Nat) (v1 : Int) (σ : Sto) : Option (Sto) :=
  (F_X5_has N v0 v1 σ).bind (fun q1 => if q1 = 0 then (some σ) else (loopK (fun q nx21 => F_X5_remove_B21 N  nx21 v0 q.1 q.2) N (v1, (upI σ v0 3 (js (σ.1 v0 3) 1)))))
set_option maxHeartbeats 4000000 in
set_option maxRecDepth 100000 in
theorem c_X5_remove (l : Launch) (g : Geo) (N : Nat) (v0 : Nat) (v1 : Int) (σ : Sto) (res : Sto) (hk0 : knd v0 = (15, 4)) (h1 : inR v1) (ok : OK σ) (hF : F_X5_remove N v0 v1 σ = some res) : MtV l g yX5_remove cX5_remove 3 none rm_X5_remove [vr g v0, vi v1] σ res := by
  intro sz
  refine Met.ofAt (own := RX5) (QQ := fun z => QV g z res) (by decide +kernel) (Nat.le_of_ble_eq_true rfl) rfl ?_
  intro p e s m args below meth c C hr hlk
  show At p l e rm_X5_remove s m args below meth c g 3 (MQ below (QV g s.heap.size res) args s 0 0 (AA g s.heap.size)) 0 [(0, vr g v0), (1, vi v1)] [] σ
  unfold F_X5_remove at hF
  refine at_aload_n C 0 dX5_remove_0 rfl rfl ?_
  refine at_iload_n C 1 dX5_remove_1 rfl rfl ?_
  obtain ⟨q1, eq1, hF⟩ := bind_some' hF
  refine at_callV (ci := 5) C (c_X5_has l g N v0 v1 σ q1 hk0 h1 ok eq1) kv_X5_has w937 hk0 rfl rfl rfl rfl (Nat.le_of_ble_eq_true rfl) ⟨rfl, rfl, (Nat.le_of_ble_eq_true rfl), (Nat.le_of_ble_eq_true rfl)⟩ dX5_remove_2 (fun tq1 okq1 => ?_)
  refine at_if_ne C (isB.r tq1) dX5_remove_5 rfl (fun c2 => ?_) (fun c2 => ?_)
  · have hF := (if_neg c2).symm.trans hF
    refine at_aload_n C 0 dX5_remove_9 rfl rfl ?_
    refine at_dup C dX5_remove_10 rfl ?_
    refine at_geti (jz := 3) C fw_5_21 hk0 rfl (Nat.le_of_ble_eq_true rfl) rfl rfl dX5_remove_11 ?_
    refine at_iconst C dX5_remove_14 ?_
    refine at_isub C dX5_remove_15 ?_
    refine at_puti (jz := 3) C fu_5_21 hk0 rfl (Nat.le_of_ble_eq_true rfl) rfl rfl dX5_remove_16 ?_
    refine at_iload_n C 1 dX5_remove_19 rfl rfl ?_
    refine at_istore_n C dX5_remove_20 rfl (Nat.le_of_ble_eq_true rfl) rfl ?_
    refine at_sub [1, 0] rfl ?_
    refine loopK_ind (res := res) (P := fun (q : Int × Sto) => inR q.1 → OK q.2 → At p l e rm_X5_remove s m args below meth c g 3 (MQ below (QV g s.heap.size res) args s 0 0 (AA g s.heap.size)) 21 [(0, vr g v0), (2, vi q.1)] [] q.2) ?_ N _ hF h1 (OK_up ok (js_R _ _))
    intro nx21 q ih21 hF
    obtain ⟨v2, σ⟩ := q
    intro h2 ok
    have hF : F_X5_remove_B21 N  nx21 v0 v2 σ = some res := hF
    unfold F_X5_remove_B21 at hF
    refine at_iload_n C 1 dX5_remove_21 rfl rfl ?_
    refine at_aload_n C 0 dX5_remove_22 rfl rfl ?_
    refine at_geti (jz := 3) C fw_5_21 hk0 rfl (Nat.le_of_ble_eq_true rfl) rfl rfl dX5_remove_23 ?_
    refine at_icmp_ge C h2 (ok _ _) dX5_remove_26 rfl (fun c3 => ?_) (fun c3 => ?_)
    · have hF := (if_pos c3).symm.trans hF
      obtain rfl := Option.some.inj hF
      exact at_vret C hr hlk ok dX5_remove_77
    · have hF := (if_neg c3).symm.trans hF
      refine at_aload_n C 0 dX5_remove_29 rfl rfl ?_
      refine at_getr C 1 fw_5_9 hk0 rfl (Nat.le_of_ble_eq_true rfl) rfl rfl dX5_remove_30 ?_
      refine at_iload_n C 1 dX5_remove_33 rfl rfl ?_
      refine at_aload_n C 0 dX5_remove_34 rfl rfl ?_
      refine at_getr C 1 fw_5_9 hk0 rfl (Nat.le_of_ble_eq_true rfl) rfl rfl dX5_remove_35 ?_
      refine at_iload_n C 1 dX5_remove_38 rfl rfl ?_
      refine at_iconst C dX5_remove_39 ?_
      refine at_iadd C dX5_remove_40 ?_
      obtain ⟨b4, hF⟩ := inb_some hF
      refine at_iaload C (kf5_0 hk0) b4 dX5_remove_41 ?_
      obtain ⟨b5, hF⟩ := inb_some hF
      refine at_iastore C (kf5_0 hk0) b5 dX5_remove_42 ?_
      refine at_aload_n C 0 dX5_remove_43 rfl rfl ?_
      refine at_getr C 2 fw_5_15 hk0 rfl (Nat.le_of_ble_eq_true rfl) rfl rfl dX5_remove_44 ?_
      refine at_iload_n C 1 dX5_remove_47 rfl rfl ?_
      refine at_aload_n C 0 dX5_remove_48 rfl rfl ?_
      refine at_getr C 2 fw_5_15 hk0 rfl (Nat.le_of_ble_eq_true rfl) rfl rfl dX5_remove_49 ?_
      refine at_iload_n C 1 dX5_remove_52 rfl rfl ?_
      refine at_iconst C dX5_remove_53 ?_
      refine at_iadd C dX5_remove_54 ?_
      refine at_iaload C (kf5_1 hk0) b4 dX5_remove_55 ?_
      refine at_iastore C (kf5_1 hk0) b5 dX5_remove_56 ?_
      refine at_aload_n C 0 dX5_remove_57 rfl rfl ?_
      refine at_getr C 3 fw_5_18 hk0 rfl (Nat.le_of_ble_eq_true rfl) rfl rfl dX5_remove_58 ?_
      refine at_iload_n C 1 dX5_remove_61 rfl rfl ?_
      refine at_aload_n C 0 dX5_remove_62 rfl rfl ?_
      refine at_getr C 3 fw_5_18 hk0 rfl (Nat.le_of_ble_eq_true rfl) rfl rfl dX5_remove_63 ?_
      refine at_iload_n C 1 dX5_remove_66 rfl rfl ?_
      refine at_iconst C dX5_remove_67 ?_
      refine at_iadd C dX5_remove_68 ?_
      refine at_iaload C (kf5_2 hk0) b4 dX5_remove_69 ?_
      refine at_iastore C (kf5_2 hk0) b5 dX5_remove_70 ?_
      refine at_iinc C 1 dX5_remove_71 rfl (Nat.le_of_ble_eq_true rfl) rfl ?_
      refine at_goto C dX5_remove_74 rfl ?_
      refine at_sub [1, 0] rfl ?_
      exact ih21 _ hF (ja_R _ _) (OK_up (OK_up (OK_up ok (ok _ _)) ((OK_up ok (ok _ _)) _ _)) ((OK_up (OK_up ok (ok _ _)) ((OK_up ok (ok _ _)) _ _)) _ _))
  · have hF := (if_pos c2).symm.trans hF
    obtain rfl := Option.some.inj hF
    exact at_vret C hr hlk ok dX5_remove_8
