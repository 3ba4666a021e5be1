abbrev rm_X0_clear : Room := { frames := 0, cells := 0, slots := 0, locals := 0 }
def F_X0_clear (N : Nat) (v0 : Nat) (σ : Sto) : Option (Sto) :=
  some (upI (upI (upI (upI (upI (upI (upI σ v0 8 0) v0 9 0) (v0 + 8) 4 0) v0 10 75) v0 11 0) v0 12 0) v0 13 0)
set_option maxHeartbeats 4000000 in
set_option maxRecDepth 100000 in
theorem c_X0_clear (l : Launch) (g : Geo) (N : Nat) (v0 : Nat) (σ : Sto) (res : Sto) (hk0 : knd v0 = (10, 14)) (ok : OK σ) (hF : F_X0_clear N v0 σ = some res) : MtV l g yX0_clear cX0_clear 1 none rm_X0_clear [vr g v0] σ res := by
  intro sz
  refine Met.ofAt (own := RX0) (QQ := fun z => QV g z res) (by decide +kernel) (Nat.le_of_ble_eq_true rfl) rfl ?_
  intro p e s m args below meth c C hr hlk
  show At p l e rm_X0_clear s m args below meth c 0 0 g 1 (MQ below (QV g s.heap.size res) args s 0 0 (AA g s.heap.size)) 0 [(0, vr g v0)] [] σ
  unfold F_X0_clear at hF
  refine at_aload_n (pc := 0) C 0 dX0_clear_0 rfl rfl ?_
  refine at_iconst (pc := 1) C dX0_clear_1 ?_
  refine at_puti (pc := 2) (jz := 8) C fu_0_40 hk0 rfl (Nat.le_of_ble_eq_true rfl) rfl rfl dX0_clear_2 ?_
  refine at_aload_n (pc := 5) C 0 dX0_clear_5 rfl rfl ?_
  refine at_iconst (pc := 6) C dX0_clear_6 ?_
  refine at_puti (pc := 7) (jz := 9) C fu_0_44 hk0 rfl (Nat.le_of_ble_eq_true rfl) rfl rfl dX0_clear_7 ?_
  refine at_aload_n (pc := 10) C 0 dX0_clear_10 rfl rfl ?_
  refine at_getr (pc := 11) C 8 fw_0_36 hk0 rfl (Nat.le_of_ble_eq_true rfl) rfl rfl dX0_clear_11 ?_
  refine at_iconst (pc := 14) C dX0_clear_14 ?_
  refine at_puti (pc := 15) (jz := 4) C fu_0_59 (kf0_7 hk0) rfl (Nat.le_of_ble_eq_true rfl) rfl rfl dX0_clear_15 ?_
  refine at_aload_n (pc := 18) C 0 dX0_clear_18 rfl rfl ?_
  refine at_bipush (pc := 19) C dX0_clear_19 (by decide) ?_
  refine at_puti (pc := 21) (jz := 10) C fu_0_47 hk0 rfl (Nat.le_of_ble_eq_true rfl) rfl rfl dX0_clear_21 ?_
  refine at_aload_n (pc := 24) C 0 dX0_clear_24 rfl rfl ?_
  refine at_iconst (pc := 25) C dX0_clear_25 ?_
  refine at_puti (pc := 26) (jz := 11) C fu_0_50 hk0 rfl (Nat.le_of_ble_eq_true rfl) rfl rfl dX0_clear_26 ?_
  refine at_aload_n (pc := 29) C 0 dX0_clear_29 rfl rfl ?_
  refine at_iconst (pc := 30) C dX0_clear_30 ?_
  refine at_puti (pc := 31) (jz := 12) C fu_0_53 hk0 rfl (Nat.le_of_ble_eq_true rfl) rfl rfl dX0_clear_31 ?_
  refine at_aload_n (pc := 34) C 0 dX0_clear_34 rfl rfl ?_
  refine at_iconst (pc := 35) C dX0_clear_35 ?_
  refine at_puti (pc := 36) (jz := 13) C fu_0_56 hk0 rfl (Nat.le_of_ble_eq_true rfl) rfl rfl dX0_clear_36 ?_
  obtain rfl := Option.some.inj hF
  exact at_vret (pc := 39) C hr hlk (OK_up (k := v0) (j := 13) (OK_up (k := v0) (j := 12) (OK_up (k := v0) (j := 11) (OK_up (k := v0) (j := 10) (OK_up (k := (v0 + 8)) (j := 4) (OK_up (k := v0) (j := 9) (OK_up (k := v0) (j := 8) ok (isB.r (Or.inl rfl))) (isB.r (Or.inl rfl))) (isB.r (Or.inl rfl))) (show inR 75 from ⟨by decide, by decide⟩)) (isB.r (Or.inl rfl))) (isB.r (Or.inl rfl))) (isB.r (Or.inl rfl))) dX0_clear_39
abbrev rm_X0_hasMember : Room := { frames := 0, cells := 0, slots := 0, locals := 0 }
def F_X0_hasMember_J16 (N : Nat)   (σ : Sto) : Option (Int) :=
  some 0
def F_X0_hasMember (N : Nat) (v0 : Nat) (v1 : Int) (σ : Sto) : Option (Int) :=
  if v1 < 0 then (F_X0_hasMember_J16 N   σ) else (if (σ.1 v0 8) ≤ v1 then (F_X0_hasMember_J16 N   σ) else (some 1))
set_option maxHeartbeats 4000000 in
set_option maxRecDepth 100000 in
theorem c_X0_hasMember (l : Launch) (g : Geo) (N : Nat) (v0 : Nat) (v1 : Int) (σ : Sto) (res : Int) (hk0 : knd v0 = (10, 14)) (h1 : inR v1) (ok : OK σ) (hF : F_X0_hasMember N v0 v1 σ = some res) : MtI l g yX0_hasMember cX0_hasMember 2 (some .boolean) rm_X0_hasMember [vr g v0, vi v1] σ res σ isB := by
  intro sz
  refine Met.ofAt (own := RX0) (QQ := fun z => QI g z res σ isB) (by decide +kernel) (Nat.le_of_ble_eq_true rfl) rfl ?_
  intro p e s m args below meth c C hr hlk
  show At p l e rm_X0_hasMember s m args below meth c 0 0 g 2 (MQ below (QI g s.heap.size res σ isB) args s 0 0 (AA g s.heap.size)) 0 [(0, vr g v0), (1, vi v1)] [] σ
  unfold F_X0_hasMember at hF
  have J16 : F_X0_hasMember_J16 N   σ = some res → At p l e rm_X0_hasMember s m args below meth c 0 0 g 2 (MQ below (QI g s.heap.size res σ isB) args s 0 0 (AA g s.heap.size)) 16 [] [] σ := by
    intro   hF
    unfold F_X0_hasMember_J16 at hF
    refine at_iconst (pc := 16) C dX0_hasMember_16 ?_
    obtain rfl := Option.some.inj hF
    exact at_zret (pc := 17) C hr hlk (Or.inl rfl) ok dX0_hasMember_17
  refine at_iload_n (pc := 0) C 1 dX0_hasMember_0 rfl rfl ?_
  refine at_if_lt (pc := 1) (tgt := 16) C h1 dX0_hasMember_1 rfl (fun c1 => ?_) (fun c1 => ?_)
  · have hF := (if_pos c1).symm.trans hF
    refine at_sub (lv' := []) [] rfl ?_
    exact J16  hF
  · have hF := (if_neg c1).symm.trans hF
    refine at_iload_n (pc := 4) C 1 dX0_hasMember_4 rfl rfl ?_
    refine at_aload_n (pc := 5) C 0 dX0_hasMember_5 rfl rfl ?_
    refine at_geti (pc := 6) (jz := 8) C fw_0_40 hk0 rfl (Nat.le_of_ble_eq_true rfl) rfl rfl dX0_hasMember_6 ?_
    refine at_icmp_ge (pc := 9) (tgt := 16) C h1 (ok v0 8) dX0_hasMember_9 rfl (fun c2 => ?_) (fun c2 => ?_)
    · have hF := (if_pos c2).symm.trans hF
      refine at_sub (lv' := []) [] rfl ?_
      exact J16  hF
    · have hF := (if_neg c2).symm.trans hF
      refine at_iconst (pc := 12) C dX0_hasMember_12 ?_
      refine at_goto (pc := 13) (tgt := 17) C dX0_hasMember_13 rfl ?_
      obtain rfl := Option.some.inj hF
      exact at_zret (pc := 17) C hr hlk (Or.inr rfl) ok dX0_hasMember_17
abbrev rm_X0_hasPeriod : Room := { frames := 0, cells := 0, slots := 0, locals := 0 }
def F_X0_hasPeriod_J16 (N : Nat)   (σ : Sto) : Option (Int) :=
  some 0
def F_X0_hasPeriod (N : Nat) (v0 : Nat) (v1 : Int) (σ : Sto) : Option (Int) :=
  if v1 < 0 then (F_X0_hasPeriod_J16 N   σ) else (if (σ.1 v0 9) ≤ v1 then (F_X0_hasPeriod_J16 N   σ) else (some 1))
set_option maxHeartbeats 4000000 in
set_option maxRecDepth 100000 in
theorem c_X0_hasPeriod (l : Launch) (g : Geo) (N : Nat) (v0 : Nat) (v1 : Int) (σ : Sto) (res : Int) (hk0 : knd v0 = (10, 14)) (h1 : inR v1) (ok : OK σ) (hF : F_X0_hasPeriod N v0 v1 σ = some res) : MtI l g yX0_hasPeriod cX0_hasPeriod 2 (some .boolean) rm_X0_hasPeriod [vr g v0, vi v1] σ res σ isB := by
  intro sz
  refine Met.ofAt (own := RX0) (QQ := fun z => QI g z res σ isB) (by decide +kernel) (Nat.le_of_ble_eq_true rfl) rfl ?_
  intro p e s m args below meth c C hr hlk
  show At p l e rm_X0_hasPeriod s m args below meth c 0 0 g 2 (MQ below (QI g s.heap.size res σ isB) args s 0 0 (AA g s.heap.size)) 0 [(0, vr g v0), (1, vi v1)] [] σ
  unfold F_X0_hasPeriod at hF
  have J16 : F_X0_hasPeriod_J16 N   σ = some res → At p l e rm_X0_hasPeriod s m args below meth c 0 0 g 2 (MQ below (QI g s.heap.size res σ isB) args s 0 0 (AA g s.heap.size)) 16 [] [] σ := by
    intro   hF
    unfold F_X0_hasPeriod_J16 at hF
    refine at_iconst (pc := 16) C dX0_hasPeriod_16 ?_
    obtain rfl := Option.some.inj hF
    exact at_zret (pc := 17) C hr hlk (Or.inl rfl) ok dX0_hasPeriod_17
  refine at_iload_n (pc := 0) C 1 dX0_hasPeriod_0 rfl rfl ?_
  refine at_if_lt (pc := 1) (tgt := 16) C h1 dX0_hasPeriod_1 rfl (fun c1 => ?_) (fun c1 => ?_)
  · have hF := (if_pos c1).symm.trans hF
    refine at_sub (lv' := []) [] rfl ?_
    exact J16  hF
  · have hF := (if_neg c1).symm.trans hF
    refine at_iload_n (pc := 4) C 1 dX0_hasPeriod_4 rfl rfl ?_
    refine at_aload_n (pc := 5) C 0 dX0_hasPeriod_5 rfl rfl ?_
    refine at_geti (pc := 6) (jz := 9) C fw_0_44 hk0 rfl (Nat.le_of_ble_eq_true rfl) rfl rfl dX0_hasPeriod_6 ?_
    refine at_icmp_ge (pc := 9) (tgt := 16) C h1 (ok v0 9) dX0_hasPeriod_9 rfl (fun c2 => ?_) (fun c2 => ?_)
    · have hF := (if_pos c2).symm.trans hF
      refine at_sub (lv' := []) [] rfl ?_
      exact J16  hF
    · have hF := (if_neg c2).symm.trans hF
      refine at_iconst (pc := 12) C dX0_hasPeriod_12 ?_
      refine at_goto (pc := 13) (tgt := 17) C dX0_hasPeriod_13 rfl ?_
      obtain rfl := Option.some.inj hF
      exact at_zret (pc := 17) C hr hlk (Or.inr rfl) ok dX0_hasPeriod_17
abbrev rm_X0_find : Room := { frames := 0, cells := 0, slots := 0, locals := 0 }
def F_X0_find_B2 (N : Nat) (nx2 : (Int) → Option (Int)) (v0 : Nat) (v1 : Int) (v2 : Int) (σ : Sto) : Option (Int) :=
  if (σ.1 v0 8) ≤ v2 then (some (-1)) else (inb v2 8 (if (σ.1 (v0 + 1) v2) = v1 then (some v2) else (nx2 (ja v2 1))))
def F_X0_find (N : Nat) (v0 : Nat) (v1 : Int) (σ : Sto) : Option (Int) :=
  loopK (fun q nx2 => F_X0_find_B2 N  nx2 v0 v1 q σ) N 0
set_option maxHeartbeats 4000000 in
set_option maxRecDepth 100000 in
theorem c_X0_find (l : Launch) (g : Geo) (N : Nat) (v0 : Nat) (v1 : Int) (σ : Sto) (res : Int) (hk0 : knd v0 = (10, 14)) (h1 : inR v1) (ok : OK σ) (hF : F_X0_find N v0 v1 σ = some res) : MtI l g yX0_find cX0_find 3 (some .int) rm_X0_find [vr g v0, vi v1] σ res σ inR := by
  intro sz
  refine Met.ofAt (own := RX0) (QQ := fun z => QI g z res σ inR) (by decide +kernel) (Nat.le_of_ble_eq_true rfl) rfl ?_
  intro p e s m args below meth c C hr hlk
  show At p l e rm_X0_find s m args below meth c 0 0 g 3 (MQ below (QI g s.heap.size res σ inR) args s 0 0 (AA g s.heap.size)) 0 [(0, vr g v0), (1, vi v1)] [] σ
  unfold F_X0_find at hF
  refine at_iconst (pc := 0) C dX0_find_0 ?_
  refine at_istore_n (pc := 1) (lv' := [(2, vi 0), (0, vr g v0), (1, vi v1)]) C dX0_find_1 rfl (Nat.le_of_ble_eq_true rfl) rfl ?_
  have L2 : ∀ (v0 : Nat) (v1 : Int) (v2 : Int), knd v0 = (10, 14) → inR v1 → inR v2 → loopK (fun q nx2 => F_X0_find_B2 N  nx2 v0 v1 q σ) N v2 = some res → At p l e rm_X0_find s m args below meth c 0 0 g 3 (MQ below (QI g s.heap.size res σ inR) args s 0 0 (AA g s.heap.size)) 2 [(0, vr g v0), (1, vi v1), (2, vi v2)] [] σ := by
    intro v0 v1 v2 hk0 h1 h2 hF
    refine loopK_ind (res := res) (P := fun (q : Int) => inR q → At p l e rm_X0_find s m args below meth c 0 0 g 3 (MQ below (QI g s.heap.size res σ inR) args s 0 0 (AA g s.heap.size)) 2 [(0, vr g v0), (1, vi v1), (2, vi q)] [] σ) ?_ N _ hF h2
    intro nx2 v2 ih2 hF h2
    have hF : F_X0_find_B2 N  nx2 v0 v1 v2 σ = some res := hF
    unfold F_X0_find_B2 at hF
    refine at_iload_n (pc := 2) C 2 dX0_find_2 rfl rfl ?_
    refine at_aload_n (pc := 3) C 0 dX0_find_3 rfl rfl ?_
    refine at_geti (pc := 4) (jz := 8) C fw_0_40 hk0 rfl (Nat.le_of_ble_eq_true rfl) rfl rfl dX0_find_4 ?_
    refine at_icmp_ge (pc := 7) (tgt := 28) C h2 (ok v0 8) dX0_find_7 rfl (fun c1 => ?_) (fun c1 => ?_)
    · have hF := (if_pos c1).symm.trans hF
      refine at_iconst (pc := 28) C dX0_find_28 ?_
      obtain rfl := Option.some.inj hF
      exact at_iret (pc := 29) C hr hlk (show inR (-1) from ⟨by decide, by decide⟩) ok dX0_find_29
    · have hF := (if_neg c1).symm.trans hF
      refine at_aload_n (pc := 10) C 0 dX0_find_10 rfl rfl ?_
      refine at_getr (pc := 11) C 1 fw_0_9 hk0 rfl (Nat.le_of_ble_eq_true rfl) rfl rfl dX0_find_11 ?_
      refine at_iload_n (pc := 14) C 2 dX0_find_14 rfl rfl ?_
      obtain ⟨b2, hF⟩ := inb_some hF
      refine at_iaload (pc := 15) C (kf0_0 hk0) b2 dX0_find_15 ?_
      refine at_iload_n (pc := 16) C 1 dX0_find_16 rfl rfl ?_
      refine at_icmp_ne (pc := 17) (tgt := 22) C (ok (v0 + 1) v2) h1 dX0_find_17 rfl (fun c3 => ?_) (fun c3 => ?_)
      · have hF := (if_neg c3).symm.trans hF
        refine at_iinc (pc := 22) (lv' := [(2, vi (ja v2 1)), (0, vr g v0), (1, vi v1)]) C 2 dX0_find_22 rfl (Nat.le_of_ble_eq_true rfl) rfl ?_
        refine at_goto (pc := 25) (tgt := 2) C dX0_find_25 rfl ?_
        refine at_sub (lv' := [(0, vr g v0), (1, vi v1), (2, vi (ja v2 1))]) [1, 2, 0] rfl ?_
        exact ih2 _ hF (ja_R v2 1)
      · have hF := (if_pos c3).symm.trans hF
        refine at_iload_n (pc := 20) C 2 dX0_find_20 rfl rfl ?_
        obtain rfl := Option.some.inj hF
        exact at_iret (pc := 21) C hr hlk h2 ok dX0_find_21
  refine at_sub (lv' := [(0, vr g v0), (1, vi v1), (2, vi 0)]) [1, 2, 0] rfl ?_
  exact L2 v0 v1 0 hk0 h1 (isB.r (Or.inl rfl)) hF
abbrev rm_X0_periodsOf : Room := { frames := 0, cells := 0, slots := 0, locals := 0 }
def F_X0_periodsOf_J28 (N : Nat) (nx4 : (Int × Int) → Option (Int)) (v0 : Nat) (v1 : Int) (v2 : Int) (v3 : Int) (σ : Sto) : Option (Int) :=
  nx4 (v2, (ja v3 1))
def F_X0_periodsOf_B4 (N : Nat) (nx4 : (Int × Int) → Option (Int)) (v0 : Nat) (v1 : Int) (v2 : Int) (v3 : Int) (σ : Sto) : Option (Int) :=
  if (σ.1 v0 9) ≤ v3 then (some v2) else (inb v3 12 (if (σ.1 (v0 + 4) v3) = v1 then (F_X0_periodsOf_J28 N nx4 v0 v1 (jor v2 (jshl 1 v3)) v3 σ) else (F_X0_periodsOf_J28 N nx4 v0 v1 v2 v3 σ)))
def F_X0_periodsOf (N : Nat) (v0 : Nat) (v1 : Int) (σ : Sto) : Option (Int) :=
  loopK (fun q nx4 => F_X0_periodsOf_B4 N  nx4 v0 v1 q.1 q.2 σ) N (0, 0)
set_option maxHeartbeats 4000000 in
set_option maxRecDepth 100000 in
theorem c_X0_periodsOf (l : Launch) (g : Geo) (N : Nat) (v0 : Nat) (v1 : Int) (σ : Sto) (res : Int) (hk0 : knd v0 = (10, 14)) (h1 : inR v1) (ok : OK σ) (hF : F_X0_periodsOf N v0 v1 σ = some res) : MtI l g yX0_periodsOf cX0_periodsOf 4 (some .int) rm_X0_periodsOf [vr g v0, vi v1] σ res σ inR := by
  intro sz
  refine Met.ofAt (own := RX0) (QQ := fun z => QI g z res σ inR) (by decide +kernel) (Nat.le_of_ble_eq_true rfl) rfl ?_
  intro p e s m args below meth c C hr hlk
  show At p l e rm_X0_periodsOf s m args below meth c 0 0 g 4 (MQ below (QI g s.heap.size res σ inR) args s 0 0 (AA g s.heap.size)) 0 [(0, vr g v0), (1, vi v1)] [] σ
  unfold F_X0_periodsOf at hF
  refine at_iconst (pc := 0) C dX0_periodsOf_0 ?_
  refine at_istore_n (pc := 1) (lv' := [(2, vi 0), (0, vr g v0), (1, vi v1)]) C dX0_periodsOf_1 rfl (Nat.le_of_ble_eq_true rfl) rfl ?_
  refine at_iconst (pc := 2) C dX0_periodsOf_2 ?_
  refine at_istore_n (pc := 3) (lv' := [(3, vi 0), (2, vi 0), (0, vr g v0), (1, vi v1)]) C dX0_periodsOf_3 rfl (Nat.le_of_ble_eq_true rfl) rfl ?_
  have L4 : ∀ (v0 : Nat) (v1 : Int) (v2 : Int) (v3 : Int), knd v0 = (10, 14) → inR v1 → inR v2 → inR v3 → loopK (fun q nx4 => F_X0_periodsOf_B4 N  nx4 v0 v1 q.1 q.2 σ) N (v2, v3) = some res → At p l e rm_X0_periodsOf s m args below meth c 0 0 g 4 (MQ below (QI g s.heap.size res σ inR) args s 0 0 (AA g s.heap.size)) 4 [(0, vr g v0), (1, vi v1), (2, vi v2), (3, vi v3)] [] σ := by
    intro v0 v1 v2 v3 hk0 h1 h2 h3 hF
    refine loopK_ind (res := res) (P := fun (q : Int × Int) => inR q.1 → inR q.2 → At p l e rm_X0_periodsOf s m args below meth c 0 0 g 4 (MQ below (QI g s.heap.size res σ inR) args s 0 0 (AA g s.heap.size)) 4 [(0, vr g v0), (1, vi v1), (2, vi q.1), (3, vi q.2)] [] σ) ?_ N _ hF h2 h3
    intro nx4 q ih4 hF
    obtain ⟨v2, v3⟩ := q
    intro h2 h3
    have hF : F_X0_periodsOf_B4 N  nx4 v0 v1 v2 v3 σ = some res := hF
    unfold F_X0_periodsOf_B4 at hF
    refine at_iload_n (pc := 4) C 3 dX0_periodsOf_4 rfl rfl ?_
    refine at_aload_n (pc := 5) C 0 dX0_periodsOf_5 rfl rfl ?_
    refine at_geti (pc := 6) (jz := 9) C fw_0_44 hk0 rfl (Nat.le_of_ble_eq_true rfl) rfl rfl dX0_periodsOf_6 ?_
    refine at_icmp_ge (pc := 9) (tgt := 34) C h3 (ok v0 9) dX0_periodsOf_9 rfl (fun c1 => ?_) (fun c1 => ?_)
    · have hF := (if_pos c1).symm.trans hF
      refine at_iload_n (pc := 34) C 2 dX0_periodsOf_34 rfl rfl ?_
      obtain rfl := Option.some.inj hF
      exact at_iret (pc := 35) C hr hlk h2 ok dX0_periodsOf_35
    · have hF := (if_neg c1).symm.trans hF
      have J28 : ∀ (v2 : Int) (v3 : Int), inR v2 → inR v3 → F_X0_periodsOf_J28 N nx4 v0 v1 v2 v3 σ = some res → At p l e rm_X0_periodsOf s m args below meth c 0 0 g 4 (MQ below (QI g s.heap.size res σ inR) args s 0 0 (AA g s.heap.size)) 28 [(0, vr g v0), (1, vi v1), (2, vi v2), (3, vi v3)] [] σ := by
        intro v2 v3 h2 h3 hF
        unfold F_X0_periodsOf_J28 at hF
        refine at_iinc (pc := 28) (lv' := [(3, vi (ja v3 1)), (0, vr g v0), (1, vi v1), (2, vi v2)]) C 3 dX0_periodsOf_28 rfl (Nat.le_of_ble_eq_true rfl) rfl ?_
        refine at_goto (pc := 31) (tgt := 4) C dX0_periodsOf_31 rfl ?_
        refine at_sub (lv' := [(0, vr g v0), (1, vi v1), (2, vi v2), (3, vi (ja v3 1))]) [1, 2, 3, 0] rfl ?_
        exact ih4 _ hF h2 (ja_R v3 1)
      refine at_aload_n (pc := 12) C 0 dX0_periodsOf_12 rfl rfl ?_
      refine at_getr (pc := 13) C 4 fw_0_21 hk0 rfl (Nat.le_of_ble_eq_true rfl) rfl rfl dX0_periodsOf_13 ?_
      refine at_iload_n (pc := 16) C 3 dX0_periodsOf_16 rfl rfl ?_
      obtain ⟨b2, hF⟩ := inb_some hF
      refine at_iaload (pc := 17) C (kf0_3 hk0) b2 dX0_periodsOf_17 ?_
      refine at_iload_n (pc := 18) C 1 dX0_periodsOf_18 rfl rfl ?_
      refine at_icmp_ne (pc := 19) (tgt := 28) C (ok (v0 + 4) v3) h1 dX0_periodsOf_19 rfl (fun c3 => ?_) (fun c3 => ?_)
      · have hF := (if_neg c3).symm.trans hF
        exact J28 v2 v3 h2 h3 hF
      · have hF := (if_pos c3).symm.trans hF
        refine at_iload_n (pc := 22) C 2 dX0_periodsOf_22 rfl rfl ?_
        refine at_iconst (pc := 23) C dX0_periodsOf_23 ?_
        refine at_iload_n (pc := 24) C 3 dX0_periodsOf_24 rfl rfl ?_
        refine at_ishl (pc := 25) C dX0_periodsOf_25 ?_
        refine at_ior (pc := 26) C dX0_periodsOf_26 ?_
        refine at_istore_n (pc := 27) (lv' := [(2, vi (jor v2 (jshl 1 v3))), (0, vr g v0), (1, vi v1), (3, vi v3)]) C dX0_periodsOf_27 rfl (Nat.le_of_ble_eq_true rfl) rfl ?_
        refine at_sub (lv' := [(0, vr g v0), (1, vi v1), (2, vi (jor v2 (jshl 1 v3))), (3, vi v3)]) [1, 2, 0, 3] rfl ?_
        exact J28 (jor v2 (jshl 1 v3)) v3 (jor_R v2 (jshl 1 v3)) h3 hF
  refine at_sub (lv' := [(0, vr g v0), (1, vi v1), (2, vi 0), (3, vi 0)]) [2, 3, 1, 0] rfl ?_
  exact L4 v0 v1 0 0 hk0 h1 (isB.r (Or.inl rfl)) (isB.r (Or.inl rfl)) hF
abbrev rm_X0_signOf : Room := { frames := 0, cells := 0, slots := 0, locals := 0 }
def F_X0_signOf (N : Nat) (v0 : Nat) (v1 : Int) (σ : Sto) : Option (Int) :=
  inb v1 12 (if (σ.1 (v0 + 7) v1) = 0 then (some 0) else (if 0 ≤ (σ.1 (v0 + 7) v1) then (some 1) else (some (-1))))
set_option maxHeartbeats 4000000 in
set_option maxRecDepth 100000 in
theorem c_X0_signOf (l : Launch) (g : Geo) (N : Nat) (v0 : Nat) (v1 : Int) (σ : Sto) (res : Int) (hk0 : knd v0 = (10, 14)) (h1 : inR v1) (ok : OK σ) (hF : F_X0_signOf N v0 v1 σ = some res) : MtI l g yX0_signOf cX0_signOf 2 (some .int) rm_X0_signOf [vr g v0, vi v1] σ res σ inR := by
  intro sz
  refine Met.ofAt (own := RX0) (QQ := fun z => QI g z res σ inR) (by decide +kernel) (Nat.le_of_ble_eq_true rfl) rfl ?_
  intro p e s m args below meth c C hr hlk
  show At p l e rm_X0_signOf s m args below meth c 0 0 g 2 (MQ below (QI g s.heap.size res σ inR) args s 0 0 (AA g s.heap.size)) 0 [(0, vr g v0), (1, vi v1)] [] σ
  unfold F_X0_signOf at hF
  refine at_aload_n (pc := 0) C 0 dX0_signOf_0 rfl rfl ?_
  refine at_getr (pc := 1) C 7 fw_0_30 hk0 rfl (Nat.le_of_ble_eq_true rfl) rfl rfl dX0_signOf_1 ?_
  refine at_iload_n (pc := 4) C 1 dX0_signOf_4 rfl rfl ?_
  obtain ⟨b1, hF⟩ := inb_some hF
  refine at_iaload (pc := 5) C (kf0_6 hk0) b1 dX0_signOf_5 ?_
  refine at_if_ne (pc := 6) (tgt := 11) C (ok (v0 + 7) v1) dX0_signOf_6 rfl (fun c2 => ?_) (fun c2 => ?_)
  · have hF := (if_neg c2).symm.trans hF
    refine at_aload_n (pc := 11) C 0 dX0_signOf_11 rfl rfl ?_
    refine at_getr (pc := 12) C 7 fw_0_30 hk0 rfl (Nat.le_of_ble_eq_true rfl) rfl rfl dX0_signOf_12 ?_
    refine at_iload_n (pc := 15) C 1 dX0_signOf_15 rfl rfl ?_
    refine at_iaload (pc := 16) C (kf0_6 hk0) b1 dX0_signOf_16 ?_
    refine at_if_ge (pc := 17) (tgt := 24) C (ok (v0 + 7) v1) dX0_signOf_17 rfl (fun c3 => ?_) (fun c3 => ?_)
    · have hF := (if_pos c3).symm.trans hF
      refine at_iconst (pc := 24) C dX0_signOf_24 ?_
      obtain rfl := Option.some.inj hF
      exact at_iret (pc := 25) C hr hlk (isB.r (Or.inr rfl)) ok dX0_signOf_25
    · have hF := (if_neg c3).symm.trans hF
      refine at_iconst (pc := 20) C dX0_signOf_20 ?_
      refine at_goto (pc := 21) (tgt := 25) C dX0_signOf_21 rfl ?_
      obtain rfl := Option.some.inj hF
      exact at_iret (pc := 25) C hr hlk (show inR (-1) from ⟨by decide, by decide⟩) ok dX0_signOf_25
  · have hF := (if_pos c2).symm.trans hF
    refine at_iconst (pc := 9) C dX0_signOf_9 ?_
    obtain rfl := Option.some.inj hF
    exact at_iret (pc := 10) C hr hlk (isB.r (Or.inl rfl)) ok dX0_signOf_10
abbrev rm_X0_countSigned : Room := { frames := 1, cells := 0, slots := 0, locals := 21 }
def F_X0_countSigned_J24 (N : Nat) (nx4 : (Int × Int) → Option (Int)) (v0 : Nat) (v1 : Int) (v2 : Int) (v3 : Int) (σ : Sto) : Option (Int) :=
  nx4 (v2, (ja v3 1))
def F_X0_countSigned_B4 (N : Nat) (nx4 : (Int × Int) → Option (Int)) (v0 : Nat) (v1 : Int) (v2 : Int) (v3 : Int) (σ : Sto) : Option (Int) :=
  if (σ.1 v0 9) ≤ v3 then (some v2) else ((F_X0_signOf N v0 v3 σ).bind (fun q2 => if q2 = v1 then (F_X0_countSigned_J24 N nx4 v0 v1 (ja v2 1) v3 σ) else (F_X0_countSigned_J24 N nx4 v0 v1 v2 v3 σ)))
def F_X0_countSigned (N : Nat) (v0 : Nat) (v1 : Int) (σ : Sto) : Option (Int) :=
  loopK (fun q nx4 => F_X0_countSigned_B4 N  nx4 v0 v1 q.1 q.2 σ) N (0, 0)
set_option maxHeartbeats 4000000 in
set_option maxRecDepth 100000 in
theorem c_X0_countSigned (l : Launch) (g : Geo) (N : Nat) (v0 : Nat) (v1 : Int) (σ : Sto) (res : Int) (hk0 : knd v0 = (10, 14)) (h1 : inR v1) (ok : OK σ) (hF : F_X0_countSigned N v0 v1 σ = some res) : MtI l g yX0_countSigned cX0_countSigned 4 (some .int) rm_X0_countSigned [vr g v0, vi v1] σ res σ inR := by
  intro sz
  refine Met.ofAt (own := RX0) (QQ := fun z => QI g z res σ inR) (by decide +kernel) (Nat.le_of_ble_eq_true rfl) rfl ?_
  intro p e s m args below meth c C hr hlk
  show At p l e rm_X0_countSigned s m args below meth c 0 0 g 4 (MQ below (QI g s.heap.size res σ inR) args s 0 0 (AA g s.heap.size)) 0 [(0, vr g v0), (1, vi v1)] [] σ
  unfold F_X0_countSigned at hF
  refine at_iconst (pc := 0) C dX0_countSigned_0 ?_
  refine at_istore_n (pc := 1) (lv' := [(2, vi 0), (0, vr g v0), (1, vi v1)]) C dX0_countSigned_1 rfl (Nat.le_of_ble_eq_true rfl) rfl ?_
  refine at_iconst (pc := 2) C dX0_countSigned_2 ?_
  refine at_istore_n (pc := 3) (lv' := [(3, vi 0), (2, vi 0), (0, vr g v0), (1, vi v1)]) C dX0_countSigned_3 rfl (Nat.le_of_ble_eq_true rfl) rfl ?_
  have L4 : ∀ (v0 : Nat) (v1 : Int) (v2 : Int) (v3 : Int), knd v0 = (10, 14) → inR v1 → inR v2 → inR v3 → loopK (fun q nx4 => F_X0_countSigned_B4 N  nx4 v0 v1 q.1 q.2 σ) N (v2, v3) = some res → At p l e rm_X0_countSigned s m args below meth c 0 0 g 4 (MQ below (QI g s.heap.size res σ inR) args s 0 0 (AA g s.heap.size)) 4 [(0, vr g v0), (1, vi v1), (2, vi v2), (3, vi v3)] [] σ := by
    intro v0 v1 v2 v3 hk0 h1 h2 h3 hF
    refine loopK_ind (res := res) (P := fun (q : Int × Int) => inR q.1 → inR q.2 → At p l e rm_X0_countSigned s m args below meth c 0 0 g 4 (MQ below (QI g s.heap.size res σ inR) args s 0 0 (AA g s.heap.size)) 4 [(0, vr g v0), (1, vi v1), (2, vi q.1), (3, vi q.2)] [] σ) ?_ N _ hF h2 h3
    intro nx4 q ih4 hF
    obtain ⟨v2, v3⟩ := q
    intro h2 h3
    have hF : F_X0_countSigned_B4 N  nx4 v0 v1 v2 v3 σ = some res := hF
    unfold F_X0_countSigned_B4 at hF
    refine at_iload_n (pc := 4) C 3 dX0_countSigned_4 rfl rfl ?_
    refine at_aload_n (pc := 5) C 0 dX0_countSigned_5 rfl rfl ?_
    refine at_geti (pc := 6) (jz := 9) C fw_0_44 hk0 rfl (Nat.le_of_ble_eq_true rfl) rfl rfl dX0_countSigned_6 ?_
    refine at_icmp_ge (pc := 9) (tgt := 30) C h3 (ok v0 9) dX0_countSigned_9 rfl (fun c1 => ?_) (fun c1 => ?_)
    · have hF := (if_pos c1).symm.trans hF
      refine at_iload_n (pc := 30) C 2 dX0_countSigned_30 rfl rfl ?_
      obtain rfl := Option.some.inj hF
      exact at_iret (pc := 31) C hr hlk h2 ok dX0_countSigned_31
    · have hF := (if_neg c1).symm.trans hF
      have J24 : ∀ (v2 : Int) (v3 : Int), inR v2 → inR v3 → F_X0_countSigned_J24 N nx4 v0 v1 v2 v3 σ = some res → At p l e rm_X0_countSigned s m args below meth c 0 0 g 4 (MQ below (QI g s.heap.size res σ inR) args s 0 0 (AA g s.heap.size)) 24 [(0, vr g v0), (1, vi v1), (2, vi v2), (3, vi v3)] [] σ := by
        intro v2 v3 h2 h3 hF
        unfold F_X0_countSigned_J24 at hF
        refine at_iinc (pc := 24) (lv' := [(3, vi (ja v3 1)), (0, vr g v0), (1, vi v1), (2, vi v2)]) C 3 dX0_countSigned_24 rfl (Nat.le_of_ble_eq_true rfl) rfl ?_
        refine at_goto (pc := 27) (tgt := 4) C dX0_countSigned_27 rfl ?_
        refine at_sub (lv' := [(0, vr g v0), (1, vi v1), (2, vi v2), (3, vi (ja v3 1))]) [1, 2, 3, 0] rfl ?_
        exact ih4 _ hF h2 (ja_R v3 1)
      refine at_aload_n (pc := 12) C 0 dX0_countSigned_12 rfl rfl ?_
      refine at_iload_n (pc := 13) C 3 dX0_countSigned_13 rfl rfl ?_
      obtain ⟨q2, eq2, hF⟩ := bind_some' hF
      refine at_callV (pc := 14) (ci := 0) C (c_X0_signOf l g N v0 v3 σ q2 hk0 h3 ok eq2) kv_X0_signOf w1210 hk0 rfl rfl rfl rfl (Nat.le_of_ble_eq_true rfl) ⟨rfl, rfl, (Nat.le_of_ble_eq_true rfl), (Nat.le_of_ble_eq_true rfl)⟩ dX0_countSigned_14 (fun tq2 okq2 => ?_)
      refine at_iload_n (pc := 17) C 1 dX0_countSigned_17 rfl rfl ?_
      refine at_icmp_ne (pc := 18) (tgt := 24) C tq2 h1 dX0_countSigned_18 rfl (fun c3 => ?_) (fun c3 => ?_)
      · have hF := (if_neg c3).symm.trans hF
        exact J24 v2 v3 h2 h3 hF
      · have hF := (if_pos c3).symm.trans hF
        refine at_iinc (pc := 21) (lv' := [(2, vi (ja v2 1)), (0, vr g v0), (1, vi v1), (3, vi v3)]) C 2 dX0_countSigned_21 rfl (Nat.le_of_ble_eq_true rfl) rfl ?_
        refine at_sub (lv' := [(0, vr g v0), (1, vi v1), (2, vi (ja v2 1)), (3, vi v3)]) [1, 2, 0, 3] rfl ?_
        exact J24 (ja v2 1) v3 (ja_R v2 1) h3 hF
  refine at_sub (lv' := [(0, vr g v0), (1, vi v1), (2, vi 0), (3, vi 0)]) [2, 3, 1, 0] rfl ?_
  exact L4 v0 v1 0 0 hk0 h1 (isB.r (Or.inl rfl)) (isB.r (Or.inl rfl)) hF
abbrev rm_X0_overlaps : Room := { frames := 0, cells := 0, slots := 0, locals := 0 }
def F_X0_overlaps_J54 (N : Nat) (nx3 : (Int) → Option (Int)) (v0 : Nat) (v1 : Int) (v2 : Int) (v3 : Int) (v4 : Int) (v5 : Int) (σ : Sto) : Option (Int) :=
  nx3 (ja v5 1)
def F_X0_overlaps_B3 (N : Nat) (nx3 : (Int) → Option (Int)) (v0 : Nat) (v1 : Int) (v2 : Int) (v3 : Int) (v4 : Int) (v5 : Int) (σ : Sto) : Option (Int) :=
  if (σ.1 v0 9) ≤ v5 then (some 0) else (if v5 = v4 then (F_X0_overlaps_J54 N nx3 v0 v1 v2 v3 v4 v5 σ) else (inb v5 12 (if (σ.1 (v0 + 4) v5) = v1 then (if v3 < (σ.1 (v0 + 5) v5) then (F_X0_overlaps_J54 N nx3 v0 v1 v2 v3 v4 v5 σ) else (if (σ.1 (v0 + 6) v5) < v2 then (F_X0_overlaps_J54 N nx3 v0 v1 v2 v3 v4 v5 σ) else (some 1))) else (F_X0_overlaps_J54 N nx3 v0 v1 v2 v3 v4 v5 σ))))
def F_X0_overlaps (N : Nat) (v0 : Nat) (v1 : Int) (v2 : Int) (v3 : Int) (v4 : Int) (σ : Sto) : Option (Int) :=
  loopK (fun q nx3 => F_X0_overlaps_B3 N  nx3 v0 v1 v2 v3 v4 q σ) N 0
set_option maxHeartbeats 4000000 in
set_option maxRecDepth 100000 in
theorem c_X0_overlaps (l : Launch) (g : Geo) (N : Nat) (v0 : Nat) (v1 : Int) (v2 : Int) (v3 : Int) (v4 : Int) (σ : Sto) (res : Int) (hk0 : knd v0 = (10, 14)) (h1 : inR v1) (h2 : inR v2) (h3 : inR v3) (h4 : inR v4) (ok : OK σ) (hF : F_X0_overlaps N v0 v1 v2 v3 v4 σ = some res) : MtI l g yX0_overlaps cX0_overlaps 6 (some .boolean) rm_X0_overlaps [vr g v0, vi v1, vi v2, vi v3, vi v4] σ res σ isB := by
  intro sz
  refine Met.ofAt (own := RX0) (QQ := fun z => QI g z res σ isB) (by decide +kernel) (Nat.le_of_ble_eq_true rfl) rfl ?_
  intro p e s m args below meth c C hr hlk
  show At p l e rm_X0_overlaps s m args below meth c 0 0 g 6 (MQ below (QI g s.heap.size res σ isB) args s 0 0 (AA g s.heap.size)) 0 [(0, vr g v0), (1, vi v1), (2, vi v2), (3, vi v3), (4, vi v4)] [] σ
  unfold F_X0_overlaps at hF
  refine at_iconst (pc := 0) C dX0_overlaps_0 ?_
  refine at_istore (pc := 1) (lv' := [(5, vi 0), (0, vr g v0), (1, vi v1), (2, vi v2), (3, vi v3), (4, vi v4)]) C dX0_overlaps_1 (Nat.le_of_ble_eq_true rfl) rfl ?_
  have L3 : ∀ (v0 : Nat) (v1 : Int) (v2 : Int) (v3 : Int) (v4 : Int) (v5 : Int), knd v0 = (10, 14) → inR v1 → inR v2 → inR v3 → inR v4 → inR v5 → loopK (fun q nx3 => F_X0_overlaps_B3 N  nx3 v0 v1 v2 v3 v4 q σ) N v5 = some res → At p l e rm_X0_overlaps s m args below meth c 0 0 g 6 (MQ below (QI g s.heap.size res σ isB) args s 0 0 (AA g s.heap.size)) 3 [(0, vr g v0), (1, vi v1), (2, vi v2), (3, vi v3), (4, vi v4), (5, vi v5)] [] σ := by
    intro v0 v1 v2 v3 v4 v5 hk0 h1 h2 h3 h4 h5 hF
    refine loopK_ind (res := res) (P := fun (q : Int) => inR q → At p l e rm_X0_overlaps s m args below meth c 0 0 g 6 (MQ below (QI g s.heap.size res σ isB) args s 0 0 (AA g s.heap.size)) 3 [(0, vr g v0), (1, vi v1), (2, vi v2), (3, vi v3), (4, vi v4), (5, vi q)] [] σ) ?_ N _ hF h5
    intro nx3 v5 ih3 hF h5
    have hF : F_X0_overlaps_B3 N  nx3 v0 v1 v2 v3 v4 v5 σ = some res := hF
    unfold F_X0_overlaps_B3 at hF
    refine at_iload (pc := 3) C 5 dX0_overlaps_3 rfl ?_
    refine at_aload_n (pc := 5) C 0 dX0_overlaps_5 rfl rfl ?_
    refine at_geti (pc := 6) (jz := 9) C fw_0_44 hk0 rfl (Nat.le_of_ble_eq_true rfl) rfl rfl dX0_overlaps_6 ?_
    refine at_icmp_ge (pc := 9) (tgt := 60) C h5 (ok v0 9) dX0_overlaps_9 rfl (fun c1 => ?_) (fun c1 => ?_)
    · have hF := (if_pos c1).symm.trans hF
      refine at_iconst (pc := 60) C dX0_overlaps_60 ?_
      obtain rfl := Option.some.inj hF
      exact at_zret (pc := 61) C hr hlk (Or.inl rfl) ok dX0_overlaps_61
    · have hF := (if_neg c1).symm.trans hF
      have J54 : ∀ (v5 : Int), inR v5 → F_X0_overlaps_J54 N nx3 v0 v1 v2 v3 v4 v5 σ = some res → At p l e rm_X0_overlaps s m args below meth c 0 0 g 6 (MQ below (QI g s.heap.size res σ isB) args s 0 0 (AA g s.heap.size)) 54 [(0, vr g v0), (1, vi v1), (2, vi v2), (3, vi v3), (4, vi v4), (5, vi v5)] [] σ := by
        intro v5 h5 hF
        unfold F_X0_overlaps_J54 at hF
        refine at_iinc (pc := 54) (lv' := [(5, vi (ja v5 1)), (0, vr g v0), (1, vi v1), (2, vi v2), (3, vi v3), (4, vi v4)]) C 5 dX0_overlaps_54 rfl (Nat.le_of_ble_eq_true rfl) rfl ?_
        refine at_goto (pc := 57) (tgt := 3) C dX0_overlaps_57 rfl ?_
        refine at_sub (lv' := [(0, vr g v0), (1, vi v1), (2, vi v2), (3, vi v3), (4, vi v4), (5, vi (ja v5 1))]) [1, 2, 3, 4, 5, 0] rfl ?_
        exact ih3 _ hF (ja_R v5 1)
      refine at_iload (pc := 12) C 5 dX0_overlaps_12 rfl ?_
      refine at_iload (pc := 14) C 4 dX0_overlaps_14 rfl ?_
      refine at_icmp_eq (pc := 16) (tgt := 54) C h5 h4 dX0_overlaps_16 rfl (fun c2 => ?_) (fun c2 => ?_)
      · have hF := (if_pos c2).symm.trans hF
        exact J54 v5 h5 hF
      · have hF := (if_neg c2).symm.trans hF
        refine at_aload_n (pc := 19) C 0 dX0_overlaps_19 rfl rfl ?_
        refine at_getr (pc := 20) C 4 fw_0_21 hk0 rfl (Nat.le_of_ble_eq_true rfl) rfl rfl dX0_overlaps_20 ?_
        refine at_iload (pc := 23) C 5 dX0_overlaps_23 rfl ?_
        obtain ⟨b3, hF⟩ := inb_some hF
        refine at_iaload (pc := 25) C (kf0_3 hk0) b3 dX0_overlaps_25 ?_
        refine at_iload_n (pc := 26) C 1 dX0_overlaps_26 rfl rfl ?_
        refine at_icmp_ne (pc := 27) (tgt := 54) C (ok (v0 + 4) v5) h1 dX0_overlaps_27 rfl (fun c4 => ?_) (fun c4 => ?_)
        · have hF := (if_neg c4).symm.trans hF
          exact J54 v5 h5 hF
        · have hF := (if_pos c4).symm.trans hF
          refine at_aload_n (pc := 30) C 0 dX0_overlaps_30 rfl rfl ?_
          refine at_getr (pc := 31) C 5 fw_0_24 hk0 rfl (Nat.le_of_ble_eq_true rfl) rfl rfl dX0_overlaps_31 ?_
          refine at_iload (pc := 34) C 5 dX0_overlaps_34 rfl ?_
          refine at_iaload (pc := 36) C (kf0_4 hk0) b3 dX0_overlaps_36 ?_
          refine at_iload_n (pc := 37) C 3 dX0_overlaps_37 rfl rfl ?_
          refine at_icmp_gt (pc := 38) (tgt := 54) C (ok (v0 + 5) v5) h3 dX0_overlaps_38 rfl (fun c5 => ?_) (fun c5 => ?_)
          · have hF := (if_pos c5).symm.trans hF
            exact J54 v5 h5 hF
          · have hF := (if_neg c5).symm.trans hF
            refine at_aload_n (pc := 41) C 0 dX0_overlaps_41 rfl rfl ?_
            refine at_getr (pc := 42) C 6 fw_0_27 hk0 rfl (Nat.le_of_ble_eq_true rfl) rfl rfl dX0_overlaps_42 ?_
            refine at_iload (pc := 45) C 5 dX0_overlaps_45 rfl ?_
            refine at_iaload (pc := 47) C (kf0_5 hk0) b3 dX0_overlaps_47 ?_
            refine at_iload_n (pc := 48) C 2 dX0_overlaps_48 rfl rfl ?_
            refine at_icmp_lt (pc := 49) (tgt := 54) C (ok (v0 + 6) v5) h2 dX0_overlaps_49 rfl (fun c6 => ?_) (fun c6 => ?_)
            · have hF := (if_pos c6).symm.trans hF
              exact J54 v5 h5 hF
            · have hF := (if_neg c6).symm.trans hF
              refine at_iconst (pc := 52) C dX0_overlaps_52 ?_
              obtain rfl := Option.some.inj hF
              exact at_zret (pc := 53) C hr hlk (Or.inr rfl) ok dX0_overlaps_53
  refine at_sub (lv' := [(0, vr g v0), (1, vi v1), (2, vi v2), (3, vi v3), (4, vi v4), (5, vi 0)]) [1, 2, 3, 4, 5, 0] rfl ?_
  exact L3 v0 v1 v2 v3 v4 0 hk0 h1 h2 h3 h4 (isB.r (Or.inl rfl)) hF
abbrev rm_X0_isOneMembers : Room := { frames := 0, cells := 0, slots := 0, locals := 0 }
def F_X0_isOneMembers (N : Nat) (v0 : Nat) (v1 : Int) (v2 : Int) (σ : Sto) : Option (Int) :=
  inb v1 12 (inb v2 12 (if (σ.1 (v0 + 4) v1) = (σ.1 (v0 + 4) v2) then (some 1) else (some 0)))
set_option maxHeartbeats 4000000 in
set_option maxRecDepth 100000 in
theorem c_X0_isOneMembers (l : Launch) (g : Geo) (N : Nat) (v0 : Nat) (v1 : Int) (v2 : Int) (σ : Sto) (res : Int) (hk0 : knd v0 = (10, 14)) (h1 : inR v1) (h2 : inR v2) (ok : OK σ) (hF : F_X0_isOneMembers N v0 v1 v2 σ = some res) : MtI l g yX0_isOneMembers cX0_isOneMembers 3 (some .boolean) rm_X0_isOneMembers [vr g v0, vi v1, vi v2] σ res σ isB := by
  intro sz
  refine Met.ofAt (own := RX0) (QQ := fun z => QI g z res σ isB) (by decide +kernel) (Nat.le_of_ble_eq_true rfl) rfl ?_
  intro p e s m args below meth c C hr hlk
  show At p l e rm_X0_isOneMembers s m args below meth c 0 0 g 3 (MQ below (QI g s.heap.size res σ isB) args s 0 0 (AA g s.heap.size)) 0 [(0, vr g v0), (1, vi v1), (2, vi v2)] [] σ
  unfold F_X0_isOneMembers at hF
  refine at_aload_n (pc := 0) C 0 dX0_isOneMembers_0 rfl rfl ?_
  refine at_getr (pc := 1) C 4 fw_0_21 hk0 rfl (Nat.le_of_ble_eq_true rfl) rfl rfl dX0_isOneMembers_1 ?_
  refine at_iload_n (pc := 4) C 1 dX0_isOneMembers_4 rfl rfl ?_
  obtain ⟨b1, hF⟩ := inb_some hF
  refine at_iaload (pc := 5) C (kf0_3 hk0) b1 dX0_isOneMembers_5 ?_
  refine at_aload_n (pc := 6) C 0 dX0_isOneMembers_6 rfl rfl ?_
  refine at_getr (pc := 7) C 4 fw_0_21 hk0 rfl (Nat.le_of_ble_eq_true rfl) rfl rfl dX0_isOneMembers_7 ?_
  refine at_iload_n (pc := 10) C 2 dX0_isOneMembers_10 rfl rfl ?_
  obtain ⟨b2, hF⟩ := inb_some hF
  refine at_iaload (pc := 11) C (kf0_3 hk0) b2 dX0_isOneMembers_11 ?_
  refine at_icmp_ne (pc := 12) (tgt := 19) C (ok (v0 + 4) v1) (ok (v0 + 4) v2) dX0_isOneMembers_12 rfl (fun c3 => ?_) (fun c3 => ?_)
  · have hF := (if_neg c3).symm.trans hF
    refine at_iconst (pc := 19) C dX0_isOneMembers_19 ?_
    obtain rfl := Option.some.inj hF
    exact at_zret (pc := 20) C hr hlk (Or.inl rfl) ok dX0_isOneMembers_20
  · have hF := (if_pos c3).symm.trans hF
    refine at_iconst (pc := 15) C dX0_isOneMembers_15 ?_
    refine at_goto (pc := 16) (tgt := 20) C dX0_isOneMembers_16 rfl ?_
    obtain rfl := Option.some.inj hF
    exact at_zret (pc := 20) C hr hlk (Or.inr rfl) ok dX0_isOneMembers_20
abbrev rm_X0_isBetween : Room := { frames := 0, cells := 0, slots := 0, locals := 0 }
def F_X0_isBetween_J36 (N : Nat)   (σ : Sto) : Option (Int) :=
  some 0
def F_X0_isBetween_J32 (N : Nat)   (σ : Sto) : Option (Int) :=
  some 1
def F_X0_isBetween_J15 (N : Nat)  (v0 : Nat) (v1 : Int) (v4 : Int) (σ : Sto) : Option (Int) :=
  if v4 = (-1) then (F_X0_isBetween_J32 N   σ) else (inb v1 12 (if (σ.1 (v0 + 4) v1) = v4 then (F_X0_isBetween_J32 N   σ) else (F_X0_isBetween_J36 N   σ)))
def F_X0_isBetween (N : Nat) (v0 : Nat) (v1 : Int) (v2 : Int) (v3 : Int) (v4 : Int) (σ : Sto) : Option (Int) :=
  if v3 = (-1) then (F_X0_isBetween_J15 N  v0 v1 v4 σ) else (inb v2 12 (if (σ.1 (v0 + 4) v2) = v3 then (F_X0_isBetween_J15 N  v0 v1 v4 σ) else (F_X0_isBetween_J36 N   σ)))
set_option maxHeartbeats 4000000 in
set_option maxRecDepth 100000 in
theorem c_X0_isBetween (l : Launch) (g : Geo) (N : Nat) (v0 : Nat) (v1 : Int) (v2 : Int) (v3 : Int) (v4 : Int) (σ : Sto) (res : Int) (hk0 : knd v0 = (10, 14)) (h1 : inR v1) (h2 : inR v2) (h3 : inR v3) (h4 : inR v4) (ok : OK σ) (hF : F_X0_isBetween N v0 v1 v2 v3 v4 σ = some res) : MtI l g yX0_isBetween cX0_isBetween 5 (some .boolean) rm_X0_isBetween [vr g v0, vi v1, vi v2, vi v3, vi v4] σ res σ isB := by
  intro sz
  refine Met.ofAt (own := RX0) (QQ := fun z => QI g z res σ isB) (by decide +kernel) (Nat.le_of_ble_eq_true rfl) rfl ?_
  intro p e s m args below meth c C hr hlk
  show At p l e rm_X0_isBetween s m args below meth c 0 0 g 5 (MQ below (QI g s.heap.size res σ isB) args s 0 0 (AA g s.heap.size)) 0 [(0, vr g v0), (1, vi v1), (2, vi v2), (3, vi v3), (4, vi v4)] [] σ
  unfold F_X0_isBetween at hF
  have J36 : F_X0_isBetween_J36 N   σ = some res → At p l e rm_X0_isBetween s m args below meth c 0 0 g 5 (MQ below (QI g s.heap.size res σ isB) args s 0 0 (AA g s.heap.size)) 36 [] [] σ := by
    intro   hF
    unfold F_X0_isBetween_J36 at hF
    refine at_iconst (pc := 36) C dX0_isBetween_36 ?_
    obtain rfl := Option.some.inj hF
    exact at_zret (pc := 37) C hr hlk (Or.inl rfl) ok dX0_isBetween_37
  have J15 : ∀ (v0 : Nat) (v1 : Int) (v4 : Int), knd v0 = (10, 14) → inR v1 → inR v4 → F_X0_isBetween_J15 N  v0 v1 v4 σ = some res → At p l e rm_X0_isBetween s m args below meth c 0 0 g 5 (MQ below (QI g s.heap.size res σ isB) args s 0 0 (AA g s.heap.size)) 15 [(0, vr g v0), (1, vi v1), (4, vi v4)] [] σ := by
    intro v0 v1 v4 hk0 h1 h4 hF
    unfold F_X0_isBetween_J15 at hF
    have J32 : F_X0_isBetween_J32 N   σ = some res → At p l e rm_X0_isBetween s m args below meth c 0 0 g 5 (MQ below (QI g s.heap.size res σ isB) args s 0 0 (AA g s.heap.size)) 32 [] [] σ := by
      intro   hF
      unfold F_X0_isBetween_J32 at hF
      refine at_iconst (pc := 32) C dX0_isBetween_32 ?_
      refine at_goto (pc := 33) (tgt := 37) C dX0_isBetween_33 rfl ?_
      obtain rfl := Option.some.inj hF
      exact at_zret (pc := 37) C hr hlk (Or.inr rfl) ok dX0_isBetween_37
    refine at_iload (pc := 15) C 2 dX0_isBetween_15 rfl ?_
    refine at_iconst (pc := 17) C dX0_isBetween_17 ?_
    refine at_icmp_eq (pc := 18) (tgt := 32) C h4 (show inR (-1) from ⟨by decide, by decide⟩) dX0_isBetween_18 rfl (fun c1 => ?_) (fun c1 => ?_)
    · have hF := (if_pos c1).symm.trans hF
      refine at_sub (lv' := []) [] rfl ?_
      exact J32  hF
    · have hF := (if_neg c1).symm.trans hF
      refine at_aload_n (pc := 21) C 0 dX0_isBetween_21 rfl rfl ?_
      refine at_getr (pc := 22) C 4 fw_0_21 hk0 rfl (Nat.le_of_ble_eq_true rfl) rfl rfl dX0_isBetween_22 ?_
      refine at_iload_n (pc := 25) C 1 dX0_isBetween_25 rfl rfl ?_
      obtain ⟨b2, hF⟩ := inb_some hF
      refine at_iaload (pc := 26) C (kf0_3 hk0) b2 dX0_isBetween_26 ?_
      refine at_iload (pc := 27) C 2 dX0_isBetween_27 rfl ?_
      refine at_icmp_ne (pc := 29) (tgt := 36) C (ok (v0 + 4) v1) h4 dX0_isBetween_29 rfl (fun c3 => ?_) (fun c3 => ?_)
      · have hF := (if_neg c3).symm.trans hF
        refine at_sub (lv' := []) [] rfl ?_
        exact J36  hF
      · have hF := (if_pos c3).symm.trans hF
        refine at_sub (lv' := []) [] rfl ?_
        exact J32  hF
  refine at_iload_n (pc := 0) C 3 dX0_isBetween_0 rfl rfl ?_
  refine at_iconst (pc := 1) C dX0_isBetween_1 ?_
  refine at_icmp_eq (pc := 2) (tgt := 15) C h3 (show inR (-1) from ⟨by decide, by decide⟩) dX0_isBetween_2 rfl (fun c4 => ?_) (fun c4 => ?_)
  · have hF := (if_pos c4).symm.trans hF
    refine at_sub (lv' := [(0, vr g v0), (1, vi v1), (4, vi v4)]) [0, 1, 4] rfl ?_
    exact J15 v0 v1 v4 hk0 h1 h4 hF
  · have hF := (if_neg c4).symm.trans hF
    refine at_aload_n (pc := 5) C 0 dX0_isBetween_5 rfl rfl ?_
    refine at_getr (pc := 6) C 4 fw_0_21 hk0 rfl (Nat.le_of_ble_eq_true rfl) rfl rfl dX0_isBetween_6 ?_
    refine at_iload_n (pc := 9) C 2 dX0_isBetween_9 rfl rfl ?_
    obtain ⟨b5, hF⟩ := inb_some hF
    refine at_iaload (pc := 10) C (kf0_3 hk0) b5 dX0_isBetween_10 ?_
    refine at_iload_n (pc := 11) C 3 dX0_isBetween_11 rfl rfl ?_
    refine at_icmp_ne (pc := 12) (tgt := 36) C (ok (v0 + 4) v2) h3 dX0_isBetween_12 rfl (fun c6 => ?_) (fun c6 => ?_)
    · have hF := (if_neg c6).symm.trans hF
      refine at_sub (lv' := []) [] rfl ?_
      exact J36  hF
    · have hF := (if_pos c6).symm.trans hF
      refine at_sub (lv' := [(0, vr g v0), (1, vi v1), (4, vi v4)]) [0, 1, 4] rfl ?_
      exact J15 v0 v1 v4 hk0 h1 h4 hF
abbrev rm_X0_paidFor : Room := { frames := 1, cells := 0, slots := 0, locals := 22 }
def F_X0_paidFor (N : Nat) (v0 : Nat) (v1 : Int) (v2 : Int) (v3 : Int) (σ : Sto) : Option (Int) :=
  (F_X0_isOneMembers N v0 v1 v2 σ).bind (fun q1 => if q1 = 0 then (inb v1 12 (inb (σ.1 (v0 + 4) v1) 8 (some (jdiv (jm v3 (σ.1 (v0 + 2) (σ.1 (v0 + 4) v1))) 100)))) else (some 0))
set_option maxHeartbeats 4000000 in
set_option maxRecDepth 100000 in
theorem c_X0_paidFor (l : Launch) (g : Geo) (N : Nat) (v0 : Nat) (v1 : Int) (v2 : Int) (v3 : Int) (σ : Sto) (res : Int) (hk0 : knd v0 = (10, 14)) (h1 : inR v1) (h2 : inR v2) (h3 : inR v3) (ok : OK σ) (hF : F_X0_paidFor N v0 v1 v2 v3 σ = some res) : MtI l g yX0_paidFor cX0_paidFor 4 (some .int) rm_X0_paidFor [vr g v0, vi v1, vi v2, vi v3] σ res σ inR := by
  intro sz
  refine Met.ofAt (own := RX0) (QQ := fun z => QI g z res σ inR) (by decide +kernel) (Nat.le_of_ble_eq_true rfl) rfl ?_
  intro p e s m args below meth c C hr hlk
  show At p l e rm_X0_paidFor s m args below meth c 0 0 g 4 (MQ below (QI g s.heap.size res σ inR) args s 0 0 (AA g s.heap.size)) 0 [(0, vr g v0), (1, vi v1), (2, vi v2), (3, vi v3)] [] σ
  unfold F_X0_paidFor at hF
  refine at_aload_n (pc := 0) C 0 dX0_paidFor_0 rfl rfl ?_
  refine at_iload_n (pc := 1) C 1 dX0_paidFor_1 rfl rfl ?_
  refine at_iload_n (pc := 2) C 2 dX0_paidFor_2 rfl rfl ?_
  obtain ⟨q1, eq1, hF⟩ := bind_some' hF
  refine at_callV (pc := 3) (ci := 0) C (c_X0_isOneMembers l g N v0 v1 v2 σ q1 hk0 h1 h2 ok eq1) kv_X0_isOneMembers w841 hk0 rfl rfl rfl rfl (Nat.le_of_ble_eq_true rfl) ⟨rfl, rfl, (Nat.le_of_ble_eq_true rfl), (Nat.le_of_ble_eq_true rfl)⟩ dX0_paidFor_3 (fun tq1 okq1 => ?_)
  refine at_if_eq (pc := 6) (tgt := 13) C (isB.r tq1) dX0_paidFor_6 rfl (fun c2 => ?_) (fun c2 => ?_)
  · have hF := (if_pos c2).symm.trans hF
    refine at_iload_n (pc := 13) C 3 dX0_paidFor_13 rfl rfl ?_
    refine at_aload_n (pc := 14) C 0 dX0_paidFor_14 rfl rfl ?_
    refine at_getr (pc := 15) C 2 fw_0_15 hk0 rfl (Nat.le_of_ble_eq_true rfl) rfl rfl dX0_paidFor_15 ?_
    refine at_aload_n (pc := 18) C 0 dX0_paidFor_18 rfl rfl ?_
    refine at_getr (pc := 19) C 4 fw_0_21 hk0 rfl (Nat.le_of_ble_eq_true rfl) rfl rfl dX0_paidFor_19 ?_
    refine at_iload_n (pc := 22) C 1 dX0_paidFor_22 rfl rfl ?_
    obtain ⟨b3, hF⟩ := inb_some hF
    refine at_iaload (pc := 23) C (kf0_3 hk0) b3 dX0_paidFor_23 ?_
    obtain ⟨b4, hF⟩ := inb_some hF
    refine at_iaload (pc := 24) C (kf0_1 hk0) b4 dX0_paidFor_24 ?_
    refine at_imul (pc := 25) C dX0_paidFor_25 ?_
    refine at_bipush (pc := 26) C dX0_paidFor_26 (by decide) ?_
    refine at_idiv (pc := 28) C dX0_paidFor_28 (show inR 100 from ⟨by decide, by decide⟩) (by decide) ?_
    obtain rfl := Option.some.inj hF
    exact at_iret (pc := 29) C hr hlk (jdiv_R (jm v3 (σ.1 (v0 + 2) (σ.1 (v0 + 4) v1))) 100) ok dX0_paidFor_29
  · have hF := (if_neg c2).symm.trans hF
    refine at_iconst (pc := 9) C dX0_paidFor_9 ?_
    refine at_goto (pc := 10) (tgt := 29) C dX0_paidFor_10 rfl ?_
    obtain rfl := Option.some.inj hF
    exact at_iret (pc := 29) C hr hlk (isB.r (Or.inl rfl)) ok dX0_paidFor_29
abbrev rm_X0_priceOf : Room := { frames := 1, cells := 0, slots := 0, locals := 22 }
def F_X0_priceOf (N : Nat) (v0 : Nat) (v1 : Int) (v2 : Int) (σ : Sto) : Option (Int) :=
  inb v1 12 (inb (σ.1 (v0 + 4) v1) 8 (inb v2 12 (inb (σ.1 (v0 + 4) v2) 8 ((F_X0_isOneMembers N v0 v1 v2 σ).bind (fun q5 => if q5 = 0 then (if (σ.1 v0 11) = 0 then (some (σ.1 (v0 + 2) (σ.1 (v0 + 4) v1))) else (if (σ.1 v0 11) = 1 then (some (js (ja (σ.1 (v0 + 2) (σ.1 (v0 + 4) v1)) 99) (σ.1 (v0 + 3) (σ.1 (v0 + 4) v2)))) else (some (jabs (js (σ.1 (v0 + 2) (σ.1 (v0 + 4) v1)) (σ.1 (v0 + 3) (σ.1 (v0 + 4) v2))))))) else (some 0))))))
set_option maxHeartbeats 4000000 in
set_option maxRecDepth 100000 in
theorem c_X0_priceOf (l : Launch) (g : Geo) (N : Nat) (v0 : Nat) (v1 : Int) (v2 : Int) (σ : Sto) (res : Int) (hk0 : knd v0 = (10, 14)) (h1 : inR v1) (h2 : inR v2) (ok : OK σ) (hF : F_X0_priceOf N v0 v1 v2 σ = some res) : MtI l g yX0_priceOf cX0_priceOf 5 (some .int) rm_X0_priceOf [vr g v0, vi v1, vi v2] σ res σ inR := by
  intro sz
  refine Met.ofAt (own := RX0) (QQ := fun z => QI g z res σ inR) (by decide +kernel) (Nat.le_of_ble_eq_true rfl) rfl ?_
  intro p e s m args below meth c C hr hlk
  show At p l e rm_X0_priceOf s m args below meth c 0 0 g 5 (MQ below (QI g s.heap.size res σ inR) args s 0 0 (AA g s.heap.size)) 0 [(0, vr g v0), (1, vi v1), (2, vi v2)] [] σ
  unfold F_X0_priceOf at hF
  refine at_aload_n (pc := 0) C 0 dX0_priceOf_0 rfl rfl ?_
  refine at_getr (pc := 1) C 2 fw_0_15 hk0 rfl (Nat.le_of_ble_eq_true rfl) rfl rfl dX0_priceOf_1 ?_
  refine at_aload_n (pc := 4) C 0 dX0_priceOf_4 rfl rfl ?_
  refine at_getr (pc := 5) C 4 fw_0_21 hk0 rfl (Nat.le_of_ble_eq_true rfl) rfl rfl dX0_priceOf_5 ?_
  refine at_iload_n (pc := 8) C 1 dX0_priceOf_8 rfl rfl ?_
  obtain ⟨b1, hF⟩ := inb_some hF
  refine at_iaload (pc := 9) C (kf0_3 hk0) b1 dX0_priceOf_9 ?_
  obtain ⟨b2, hF⟩ := inb_some hF
  refine at_iaload (pc := 10) C (kf0_1 hk0) b2 dX0_priceOf_10 ?_
  refine at_istore_n (pc := 11) (lv' := [(3, vi (σ.1 (v0 + 2) (σ.1 (v0 + 4) v1))), (0, vr g v0), (1, vi v1), (2, vi v2)]) C dX0_priceOf_11 rfl (Nat.le_of_ble_eq_true rfl) rfl ?_
  refine at_aload_n (pc := 12) C 1 dX0_priceOf_12 rfl rfl ?_
  refine at_getr (pc := 13) C 3 fw_0_18 hk0 rfl (Nat.le_of_ble_eq_true rfl) rfl rfl dX0_priceOf_13 ?_
  refine at_aload_n (pc := 16) C 1 dX0_priceOf_16 rfl rfl ?_
  refine at_getr (pc := 17) C 4 fw_0_21 hk0 rfl (Nat.le_of_ble_eq_true rfl) rfl rfl dX0_priceOf_17 ?_
  refine at_iload_n (pc := 20) C 3 dX0_priceOf_20 rfl rfl ?_
  obtain ⟨b3, hF⟩ := inb_some hF
  refine at_iaload (pc := 21) C (kf0_3 hk0) b3 dX0_priceOf_21 ?_
  obtain ⟨b4, hF⟩ := inb_some hF
  refine at_iaload (pc := 22) C (kf0_2 hk0) b4 dX0_priceOf_22 ?_
  refine at_istore (pc := 23) (lv' := [(4, vi (σ.1 (v0 + 3) (σ.1 (v0 + 4) v2))), (3, vi (σ.1 (v0 + 2) (σ.1 (v0 + 4) v1))), (0, vr g v0), (1, vi v1), (2, vi v2)]) C dX0_priceOf_23 (Nat.le_of_ble_eq_true rfl) rfl ?_
  refine at_aload_n (pc := 25) C 2 dX0_priceOf_25 rfl rfl ?_
  refine at_iload_n (pc := 26) C 3 dX0_priceOf_26 rfl rfl ?_
  refine at_iload_n (pc := 27) C 4 dX0_priceOf_27 rfl rfl ?_
  obtain ⟨q5, eq5, hF⟩ := bind_some' hF
  refine at_callV (pc := 28) (ci := 0) C (c_X0_isOneMembers l g N v0 v1 v2 σ q5 hk0 h1 h2 ok eq5) kv_X0_isOneMembers w841 hk0 rfl rfl rfl rfl (Nat.le_of_ble_eq_true rfl) ⟨rfl, rfl, (Nat.le_of_ble_eq_true rfl), (Nat.le_of_ble_eq_true rfl)⟩ dX0_priceOf_28 (fun tq5 okq5 => ?_)
  refine at_if_eq (pc := 31) (tgt := 36) C (isB.r tq5) dX0_priceOf_31 rfl (fun c6 => ?_) (fun c6 => ?_)
  · have hF := (if_pos c6).symm.trans hF
    refine at_aload_n (pc := 36) C 2 dX0_priceOf_36 rfl rfl ?_
    refine at_geti (pc := 37) (jz := 11) C fw_0_50 hk0 rfl (Nat.le_of_ble_eq_true rfl) rfl rfl dX0_priceOf_37 ?_
    refine at_if_ne (pc := 40) (tgt := 45) C (ok v0 11) dX0_priceOf_40 rfl (fun c7 => ?_) (fun c7 => ?_)
    · have hF := (if_neg c7).symm.trans hF
      refine at_aload_n (pc := 45) C 2 dX0_priceOf_45 rfl rfl ?_
      refine at_geti (pc := 46) (jz := 11) C fw_0_50 hk0 rfl (Nat.le_of_ble_eq_true rfl) rfl rfl dX0_priceOf_46 ?_
      refine at_iconst (pc := 49) C dX0_priceOf_49 ?_
      refine at_icmp_ne (pc := 50) (tgt := 63) C (ok v0 11) (isB.r (Or.inr rfl)) dX0_priceOf_50 rfl (fun c8 => ?_) (fun c8 => ?_)
      · have hF := (if_neg c8).symm.trans hF
        refine at_iload_n (pc := 63) C 1 dX0_priceOf_63 rfl rfl ?_
        refine at_iload (pc := 64) C 0 dX0_priceOf_64 rfl ?_
        refine at_isub (pc := 66) C dX0_priceOf_66 ?_
        refine at_mabs (pc := 67) C km_abs w842 (js_R (σ.1 (v0 + 2) (σ.1 (v0 + 4) v1)) (σ.1 (v0 + 3) (σ.1 (v0 + 4) v2))) ⟨(Nat.le_of_ble_eq_true rfl), (Nat.le_of_ble_eq_true rfl)⟩ dX0_priceOf_67 ?_
        obtain rfl := Option.some.inj hF
        exact at_iret (pc := 70) C hr hlk (jabs_R (js_R (σ.1 (v0 + 2) (σ.1 (v0 + 4) v1)) (σ.1 (v0 + 3) (σ.1 (v0 + 4) v2)))) ok dX0_priceOf_70
      · have hF := (if_pos c8).symm.trans hF
        refine at_iload_n (pc := 53) C 1 dX0_priceOf_53 rfl rfl ?_
        refine at_bipush (pc := 54) C dX0_priceOf_54 (by decide) ?_
        refine at_iadd (pc := 56) C dX0_priceOf_56 ?_
        refine at_iload (pc := 57) C 0 dX0_priceOf_57 rfl ?_
        refine at_isub (pc := 59) C dX0_priceOf_59 ?_
        refine at_goto (pc := 60) (tgt := 70) C dX0_priceOf_60 rfl ?_
        obtain rfl := Option.some.inj hF
        exact at_iret (pc := 70) C hr hlk (js_R (ja (σ.1 (v0 + 2) (σ.1 (v0 + 4) v1)) 99) (σ.1 (v0 + 3) (σ.1 (v0 + 4) v2))) ok dX0_priceOf_70
    · have hF := (if_pos c7).symm.trans hF
      refine at_iload_n (pc := 43) C 1 dX0_priceOf_43 rfl rfl ?_
      obtain rfl := Option.some.inj hF
      exact at_iret (pc := 44) C hr hlk (ok (v0 + 2) (σ.1 (v0 + 4) v1)) ok dX0_priceOf_44
  · have hF := (if_neg c6).symm.trans hF
    refine at_iconst (pc := 34) C dX0_priceOf_34 ?_
    obtain rfl := Option.some.inj hF
    exact at_iret (pc := 35) C hr hlk (isB.r (Or.inl rfl)) ok dX0_priceOf_35
abbrev rm_X1_load : Room := { frames := 1, cells := 0, slots := 0, locals := 21 }
def F_X1_load_J258 (N : Nat) (nx154 : (Int × Sto) → Option (Sto)) (v0 : Nat) (v3 : Nat) (v4 : Int) (v5 : Int) (σ : Sto) : Option (Sto) :=
  nx154 ((ja v5 1), σ)
def F_X1_load_B154 (N : Nat) (nx154 : (Int × Sto) → Option (Sto)) (v0 : Nat) (v3 : Nat) (v4 : Int) (v5 : Int) (σ : Sto) : Option (Sto) :=
  if (σ.1 v3 3) ≤ v5 then (some σ) else (inb v5 30 (if (jand (jshr v4 (σ.1 (v3 + 1) v5)) 1) = 0 then (if (jand (jshr v4 (σ.1 (v3 + 2) v5)) 1) = 0 then (inb (σ.1 (v3 + 1) v5) 12 (inb (σ.1 (v3 + 2) v5) 12 (inb (ja (jm (σ.1 (v3 + 1) v5) 12) (σ.1 (v3 + 2) v5)) 144 (F_X1_load_J258 N nx154 v0 v3 v4 v5 (upI (upI (upI σ (v0 + 2) (σ.1 (v3 + 1) v5) (js (σ.1 (v0 + 2) (σ.1 (v3 + 1) v5)) (σ.1 (v3 + 3) v5))) (v0 + 2) (σ.1 (v3 + 2) v5) (js ((upI σ (v0 + 2) (σ.1 (v3 + 1) v5) (js (σ.1 (v0 + 2) (σ.1 (v3 + 1) v5)) (σ.1 (v3 + 3) v5))).1 (v0 + 2) (σ.1 (v3 + 2) v5)) ((upI σ (v0 + 2) (σ.1 (v3 + 1) v5) (js (σ.1 (v0 + 2) (σ.1 (v3 + 1) v5)) (σ.1 (v3 + 3) v5))).1 (v3 + 3) v5))) (v0 + 3) (ja (jm (σ.1 (v3 + 1) v5) 12) (σ.1 (v3 + 2) v5)) (js ((upI (upI σ (v0 + 2) (σ.1 (v3 + 1) v5) (js (σ.1 (v0 + 2) (σ.1 (v3 + 1) v5)) (σ.1 (v3 + 3) v5))) (v0 + 2) (σ.1 (v3 + 2) v5) (js ((upI σ (v0 + 2) (σ.1 (v3 + 1) v5) (js (σ.1 (v0 + 2) (σ.1 (v3 + 1) v5)) (σ.1 (v3 + 3) v5))).1 (v0 + 2) (σ.1 (v3 + 2) v5)) ((upI σ (v0 + 2) (σ.1 (v3 + 1) v5) (js (σ.1 (v0 + 2) (σ.1 (v3 + 1) v5)) (σ.1 (v3 + 3) v5))).1 (v3 + 3) v5))).1 (v0 + 3) (ja (jm (σ.1 (v3 + 1) v5) 12) (σ.1 (v3 + 2) v5))) ((upI (upI σ (v0 + 2) (σ.1 (v3 + 1) v5) (js (σ.1 (v0 + 2) (σ.1 (v3 + 1) v5)) (σ.1 (v3 + 3) v5))) (v0 + 2) (σ.1 (v3 + 2) v5) (js ((upI σ (v0 + 2) (σ.1 (v3 + 1) v5) (js (σ.1 (v0 + 2) (σ.1 (v3 + 1) v5)) (σ.1 (v3 + 3) v5))).1 (v0 + 2) (σ.1 (v3 + 2) v5)) ((upI σ (v0 + 2) (σ.1 (v3 + 1) v5) (js (σ.1 (v0 + 2) (σ.1 (v3 + 1) v5)) (σ.1 (v3 + 3) v5))).1 (v3 + 3) v5))).1 (v3 + 3) v5))))))) else (F_X1_load_J258 N nx154 v0 v3 v4 v5 σ)) else (F_X1_load_J258 N nx154 v0 v3 v4 v5 σ)))
def F_X1_load_J151 (N : Nat)  (v0 : Nat) (v3 : Nat) (v4 : Int) (σ : Sto) : Option (Sto) :=
  loopK (fun q nx154 => F_X1_load_B154 N  nx154 v0 v3 v4 q.1 q.2) N (0, σ)
def F_X1_load_J145 (N : Nat) (nx11 : (Int × Sto) → Option (Sto)) (v0 : Nat) (v1 : Nat) (v2 : Nat) (v3 : Nat) (v4 : Int) (v5 : Int) (σ : Sto) : Option (Sto) :=
  nx11 ((ja v5 1), σ)
def F_X1_load_B88 (N : Nat) (nx11 : (Int × Sto) → Option (Sto)) (nx88 : (Int × Sto) → Option (Sto)) (v0 : Nat) (v1 : Nat) (v2 : Nat) (v3 : Nat) (v4 : Int) (v5 : Int) (v7 : Int) (σ : Sto) : Option (Sto) :=
  if (σ.1 v0 11) ≤ v7 then (F_X1_load_J145 N nx11 v0 v1 v2 v3 v4 v5 σ) else (inb (ja (jm v5 12) v7) 144 (nx88 ((ja v7 1), (upI (upI σ (v0 + 3) (ja (jm v5 12) v7) (jmax 0 (σ.1 (v2 + 1) (ja (jm v5 12) v7)))) (v0 + 4) (ja (jm v5 12) v7) ((upI σ (v0 + 3) (ja (jm v5 12) v7) (jmax 0 (σ.1 (v2 + 1) (ja (jm v5 12) v7)))).1 (v2 + 2) (ja (jm v5 12) v7))))))
def F_X1_load_J84 (N : Nat) (nx11 : (Int × Sto) → Option (Sto)) (v0 : Nat) (v1 : Nat) (v2 : Nat) (v3 : Nat) (v4 : Int) (v5 : Int) (t1 : Int) (t2 : Int) (σ : Sto) : Option (Sto) :=
  inb t1 12 (loopK (fun q nx88 => F_X1_load_B88 N nx11 nx88 v0 v1 v2 v3 v4 v5 q.1 q.2) N (0, (upI σ (v0 + 2) t1 t2)))
def F_X1_load_J58 (N : Nat) (nx11 : (Int × Sto) → Option (Sto)) (v0 : Nat) (v1 : Nat) (v2 : Nat) (v3 : Nat) (v4 : Int) (v5 : Int) (v6 : Int) (t1 : Int) (t2 : Int) (σ : Sto) : Option (Sto) :=
  inb t1 12 (if v6 = 0 then (F_X1_load_J84 N nx11 v0 v1 v2 v3 v4 v5 v5 0 (upI σ (v0 + 1) t1 t2)) else (inb v5 12 (F_X1_load_J84 N nx11 v0 v1 v2 v3 v4 v5 v5 (jabs ((upI σ (v0 + 1) t1 t2).1 (v1 + 7) v5)) (upI σ (v0 + 1) t1 t2))))
def F_X1_load_J35 (N : Nat) (nx11 : (Int × Sto) → Option (Sto)) (v0 : Nat) (v1 : Nat) (v2 : Nat) (v3 : Nat) (v4 : Int) (v5 : Int) (t0 : Int) (σ : Sto) : Option (Sto) :=
  if t0 = 0 then (F_X1_load_J58 N nx11 v0 v1 v2 v3 v4 v5 t0 v5 0 σ) else ((F_X0_signOf N v1 v5 σ).bind (fun q16 => F_X1_load_J58 N nx11 v0 v1 v2 v3 v4 v5 t0 v5 q16 σ))
def F_X1_load_B11 (N : Nat) (nx11 : (Int × Sto) → Option (Sto)) (v0 : Nat) (v1 : Nat) (v2 : Nat) (v3 : Nat) (v4 : Int) (v5 : Int) (σ : Sto) : Option (Sto) :=
  if (σ.1 v0 11) ≤ v5 then (F_X1_load_J151 N  v0 v3 v4 σ) else (if (jand (jshr v4 v5) 1) = 0 then (F_X1_load_J35 N nx11 v0 v1 v2 v3 v4 v5 1 σ) else (F_X1_load_J35 N nx11 v0 v1 v2 v3 v4 v5 0 σ))
def F_X1_load (N : Nat) (v0 : Nat) (v1 : Nat) (v2 : Nat) (v3 : Nat) (v4 : Int) (σ : Sto) : Option (Sto) :=
  loopK (fun q nx11 => F_X1_load_B11 N  nx11 v0 v1 v2 v3 v4 q.1 q.2) N (0, (upI σ v0 11 (σ.1 v1 9)))
set_option maxHeartbeats 4000000 in
set_option maxRecDepth 100000 in
theorem c_X1_load (l : Launch) (g : Geo) (N : Nat) (v0 : Nat) (v1 : Nat) (v2 : Nat) (v3 : Nat) (v4 : Int) (σ : Sto) (res : Sto) (hk0 : knd v0 = (11, 14)) (hk1 : knd v1 = (10, 14)) (hk2 : knd v2 = (16, 2)) (hk3 : knd v3 = (15, 4)) (h4 : inR v4) (ok : OK σ) (hF : F_X1_load N v0 v1 v2 v3 v4 σ = some res) : MtV l g yX1_load cX1_load 9 none rm_X1_load [vr g v0, vr g v1, vr g v2, vr g v3, vi v4] σ res := by
  intro sz
  refine Met.ofAt (own := RX1) (QQ := fun z => QV g z res) (by decide +kernel) (Nat.le_of_ble_eq_true rfl) rfl ?_
  intro p e s m args below meth c C hr hlk
  show At p l e rm_X1_load s m args below meth c 0 0 g 9 (MQ below (QV g s.heap.size res) args s 0 0 (AA g s.heap.size)) 0 [(0, vr g v0), (1, vr g v1), (2, vr g v2), (3, vr g v3), (4, vi v4)] [] σ
  unfold F_X1_load at hF
  refine at_aload_n (pc := 0) C 0 dX1_load_0 rfl rfl ?_
  refine at_aload_n (pc := 1) C 1 dX1_load_1 rfl rfl ?_
  refine at_geti (pc := 2) (jz := 9) C fw_1_55 hk1 rfl (Nat.le_of_ble_eq_true rfl) rfl rfl dX1_load_2 ?_
  refine at_puti (pc := 5) (jz := 11) C fu_1_46 hk0 rfl (Nat.le_of_ble_eq_true rfl) rfl rfl dX1_load_5 ?_
  refine at_iconst (pc := 8) C dX1_load_8 ?_
  refine at_istore (pc := 9) (lv' := [(5, vi 0), (0, vr g v0), (1, vr g v1), (2, vr g v2), (3, vr g v3), (4, vi v4)]) C dX1_load_9 (Nat.le_of_ble_eq_true rfl) rfl ?_
  have L11 : ∀ (v0 : Nat) (v1 : Nat) (v2 : Nat) (v3 : Nat) (v4 : Int) (v5 : Int) (σ : Sto), knd v0 = (11, 14) → knd v1 = (10, 14) → knd v2 = (16, 2) → knd v3 = (15, 4) → inR v4 → inR v5 → OK σ → loopK (fun q nx11 => F_X1_load_B11 N  nx11 v0 v1 v2 v3 v4 q.1 q.2) N (v5, σ) = some res → At p l e rm_X1_load s m args below meth c 0 0 g 9 (MQ below (QV g s.heap.size res) args s 0 0 (AA g s.heap.size)) 11 [(0, vr g v0), (1, vr g v1), (2, vr g v2), (3, vr g v3), (4, vi v4), (5, vi v5)] [] σ := by
    intro v0 v1 v2 v3 v4 v5 σ hk0 hk1 hk2 hk3 h4 h5 ok hF
    refine loopK_ind (res := res) (P := fun (q : Int × Sto) => inR q.1 → OK q.2 → At p l e rm_X1_load s m args below meth c 0 0 g 9 (MQ below (QV g s.heap.size res) args s 0 0 (AA g s.heap.size)) 11 [(0, vr g v0), (1, vr g v1), (2, vr g v2), (3, vr g v3), (4, vi v4), (5, vi q.1)] [] q.2) ?_ N _ hF h5 ok
    intro nx11 q ih11 hF
    obtain ⟨v5, σ⟩ := q
    intro h5 ok
    have hF : F_X1_load_B11 N  nx11 v0 v1 v2 v3 v4 v5 σ = some res := hF
    unfold F_X1_load_B11 at hF
    have J151 : ∀ (v0 : Nat) (v3 : Nat) (v4 : Int) (σ : Sto), knd v0 = (11, 14) → knd v3 = (15, 4) → inR v4 → OK σ → F_X1_load_J151 N  v0 v3 v4 σ = some res → At p l e rm_X1_load s m args below meth c 0 0 g 9 (MQ below (QV g s.heap.size res) args s 0 0 (AA g s.heap.size)) 151 [(0, vr g v0), (3, vr g v3), (4, vi v4)] [] σ := by
      intro v0 v3 v4 σ hk0 hk3 h4 ok hF
      unfold F_X1_load_J151 at hF
      refine at_iconst (pc := 151) C dX1_load_151 ?_
      refine at_istore (pc := 152) (lv' := [(5, vi 0), (0, vr g v0), (3, vr g v3), (4, vi v4)]) C dX1_load_152 (Nat.le_of_ble_eq_true rfl) rfl ?_
      have L154 : ∀ (v0 : Nat) (v3 : Nat) (v4 : Int) (v5 : Int) (σ : Sto), knd v0 = (11, 14) → knd v3 = (15, 4) → inR v4 → inR v5 → OK σ → loopK (fun q nx154 => F_X1_load_B154 N  nx154 v0 v3 v4 q.1 q.2) N (v5, σ) = some res → At p l e rm_X1_load s m args below meth c 0 0 g 9 (MQ below (QV g s.heap.size res) args s 0 0 (AA g s.heap.size)) 154 [(0, vr g v0), (3, vr g v3), (4, vi v4), (5, vi v5)] [] σ := by
        intro v0 v3 v4 v5 σ hk0 hk3 h4 h5 ok hF
        refine loopK_ind (res := res) (P := fun (q : Int × Sto) => inR q.1 → OK q.2 → At p l e rm_X1_load s m args below meth c 0 0 g 9 (MQ below (QV g s.heap.size res) args s 0 0 (AA g s.heap.size)) 154 [(0, vr g v0), (3, vr g v3), (4, vi v4), (5, vi q.1)] [] q.2) ?_ N _ hF h5 ok
        intro nx154 q ih154 hF
        obtain ⟨v5, σ⟩ := q
        intro h5 ok
        have hF : F_X1_load_B154 N  nx154 v0 v3 v4 v5 σ = some res := hF
        unfold F_X1_load_B154 at hF
        refine at_iload (pc := 154) C 3 dX1_load_154 rfl ?_
        refine at_aload_n (pc := 156) C 1 dX1_load_156 rfl rfl ?_
        refine at_geti (pc := 157) (jz := 3) C fw_1_80 hk3 rfl (Nat.le_of_ble_eq_true rfl) rfl rfl dX1_load_157 ?_
        refine at_icmp_ge (pc := 160) (tgt := 264) C h5 (ok v3 3) dX1_load_160 rfl (fun c1 => ?_) (fun c1 => ?_)
        · have hF := (if_pos c1).symm.trans hF
          obtain rfl := Option.some.inj hF
          exact at_vret (pc := 264) C hr hlk ok dX1_load_264
        · have hF := (if_neg c1).symm.trans hF
          have J258 : ∀ (v5 : Int) (σ : Sto), inR v5 → OK σ → F_X1_load_J258 N nx154 v0 v3 v4 v5 σ = some res → At p l e rm_X1_load s m args below meth c 0 0 g 9 (MQ below (QV g s.heap.size res) args s 0 0 (AA g s.heap.size)) 258 [(0, vr g v0), (3, vr g v3), (4, vi v4), (5, vi v5)] [] σ := by
            intro v5 σ h5 ok hF
            unfold F_X1_load_J258 at hF
            refine at_iinc (pc := 258) (lv' := [(5, vi (ja v5 1)), (0, vr g v0), (3, vr g v3), (4, vi v4)]) C 3 dX1_load_258 rfl (Nat.le_of_ble_eq_true rfl) rfl ?_
            refine at_goto (pc := 261) (tgt := 154) C dX1_load_261 rfl ?_
            refine at_sub (lv' := [(0, vr g v0), (3, vr g v3), (4, vi v4), (5, vi (ja v5 1))]) [1, 2, 3, 0] rfl ?_
            exact ih154 _ hF (ja_R v5 1) ok
          refine at_aload_n (pc := 163) C 1 dX1_load_163 rfl rfl ?_
          refine at_getr (pc := 164) C 1 fw_1_85 hk3 rfl (Nat.le_of_ble_eq_true rfl) rfl rfl dX1_load_164 ?_
          refine at_iload (pc := 167) C 3 dX1_load_167 rfl ?_
          obtain ⟨b2, hF⟩ := inb_some hF
          refine at_iaload (pc := 169) C (kf5_0 hk3) b2 dX1_load_169 ?_
          refine at_istore (pc := 170) (lv' := [(6, vi (σ.1 (v3 + 1) v5)), (0, vr g v0), (3, vr g v3), (4, vi v4), (5, vi v5)]) C dX1_load_170 (Nat.le_of_ble_eq_true rfl) rfl ?_
          refine at_aload_n (pc := 172) C 2 dX1_load_172 rfl rfl ?_
          refine at_getr (pc := 173) C 2 fw_1_88 hk3 rfl (Nat.le_of_ble_eq_true rfl) rfl rfl dX1_load_173 ?_
          refine at_iload (pc := 176) C 4 dX1_load_176 rfl ?_
          refine at_iaload (pc := 178) C (kf5_1 hk3) b2 dX1_load_178 ?_
          refine at_istore (pc := 179) (lv' := [(7, vi (σ.1 (v3 + 2) v5)), (6, vi (σ.1 (v3 + 1) v5)), (0, vr g v0), (3, vr g v3), (4, vi v4), (5, vi v5)]) C dX1_load_179 (Nat.le_of_ble_eq_true rfl) rfl ?_
          refine at_iload (pc := 181) C 4 dX1_load_181 rfl ?_
          refine at_iload (pc := 183) C 1 dX1_load_183 rfl ?_
          refine at_ishr (pc := 185) C dX1_load_185 ?_
          refine at_iconst (pc := 186) C dX1_load_186 ?_
          refine at_iand (pc := 187) C dX1_load_187 ?_
          refine at_if_ne (pc := 188) (tgt := 258) C (jand_R (jshr v4 (σ.1 (v3 + 1) v5)) 1) dX1_load_188 rfl (fun c3 => ?_) (fun c3 => ?_)
          · have hF := (if_neg c3).symm.trans hF
            refine at_sub (lv' := [(0, vr g v0), (3, vr g v3), (4, vi v4), (5, vi v5)]) [2, 3, 4, 5] rfl ?_
            exact J258 v5 σ h5 ok hF
          · have hF := (if_pos c3).symm.trans hF
            refine at_iload (pc := 191) C 4 dX1_load_191 rfl ?_
            refine at_iload (pc := 193) C 0 dX1_load_193 rfl ?_
            refine at_ishr (pc := 195) C dX1_load_195 ?_
            refine at_iconst (pc := 196) C dX1_load_196 ?_
            refine at_iand (pc := 197) C dX1_load_197 ?_
            refine at_if_ne (pc := 198) (tgt := 258) C (jand_R (jshr v4 (σ.1 (v3 + 2) v5)) 1) dX1_load_198 rfl (fun c4 => ?_) (fun c4 => ?_)
            · have hF := (if_neg c4).symm.trans hF
              refine at_sub (lv' := [(0, vr g v0), (3, vr g v3), (4, vi v4), (5, vi v5)]) [2, 3, 4, 5] rfl ?_
              exact J258 v5 σ h5 ok hF
            · have hF := (if_pos c4).symm.trans hF
              refine at_aload_n (pc := 201) C 2 dX1_load_201 rfl rfl ?_
              refine at_getr (pc := 202) C 2 fw_1_15 hk0 rfl (Nat.le_of_ble_eq_true rfl) rfl rfl dX1_load_202 ?_
              refine at_iload (pc := 205) C 1 dX1_load_205 rfl ?_
              refine at_dup2 (pc := 207) C dX1_load_207 rfl rfl ?_
              obtain ⟨b5, hF⟩ := inb_some hF
              refine at_iaload (pc := 208) C (kf1_1 hk0) b5 dX1_load_208 ?_
              refine at_aload_n (pc := 209) C 3 dX1_load_209 rfl rfl ?_
              refine at_getr (pc := 210) C 3 fw_1_91 hk3 rfl (Nat.le_of_ble_eq_true rfl) rfl rfl dX1_load_210 ?_
              refine at_iload (pc := 213) C 5 dX1_load_213 rfl ?_
              refine at_iaload (pc := 215) C (kf5_2 hk3) b2 dX1_load_215 ?_
              refine at_isub (pc := 216) C dX1_load_216 ?_
              refine at_iastore (pc := 217) C (kf1_1 hk0) b5 dX1_load_217 ?_
              refine at_aload_n (pc := 218) C 2 dX1_load_218 rfl rfl ?_
              refine at_getr (pc := 219) C 2 fw_1_15 hk0 rfl (Nat.le_of_ble_eq_true rfl) rfl rfl dX1_load_219 ?_
              refine at_iload (pc := 222) C 0 dX1_load_222 rfl ?_
              refine at_dup2 (pc := 224) C dX1_load_224 rfl rfl ?_
              obtain ⟨b6, hF⟩ := inb_some hF
              refine at_iaload (pc := 225) C (kf1_1 hk0) b6 dX1_load_225 ?_
              refine at_aload_n (pc := 226) C 3 dX1_load_226 rfl rfl ?_
              refine at_getr (pc := 227) C 3 fw_1_91 hk3 rfl (Nat.le_of_ble_eq_true rfl) rfl rfl dX1_load_227 ?_
              refine at_iload (pc := 230) C 5 dX1_load_230 rfl ?_
              refine at_iaload (pc := 232) C (kf5_2 hk3) b2 dX1_load_232 ?_
              refine at_isub (pc := 233) C dX1_load_233 ?_
              refine at_iastore (pc := 234) C (kf1_1 hk0) b6 dX1_load_234 ?_
              refine at_aload_n (pc := 235) C 2 dX1_load_235 rfl rfl ?_
              refine at_getr (pc := 236) C 3 fw_1_18 hk0 rfl (Nat.le_of_ble_eq_true rfl) rfl rfl dX1_load_236 ?_
              refine at_iload (pc := 239) C 1 dX1_load_239 rfl ?_
              refine at_bipush (pc := 241) C dX1_load_241 (by decide) ?_
              refine at_imul (pc := 243) C dX1_load_243 ?_
              refine at_iload (pc := 244) C 0 dX1_load_244 rfl ?_
              refine at_iadd (pc := 246) C dX1_load_246 ?_
              refine at_dup2 (pc := 247) C dX1_load_247 rfl rfl ?_
              obtain ⟨b7, hF⟩ := inb_some hF
              refine at_iaload (pc := 248) C (kf1_2 hk0) b7 dX1_load_248 ?_
              refine at_aload_n (pc := 249) C 3 dX1_load_249 rfl rfl ?_
              refine at_getr (pc := 250) C 3 fw_1_91 hk3 rfl (Nat.le_of_ble_eq_true rfl) rfl rfl dX1_load_250 ?_
              refine at_iload (pc := 253) C 5 dX1_load_253 rfl ?_
              refine at_iaload (pc := 255) C (kf5_2 hk3) b2 dX1_load_255 ?_
              refine at_isub (pc := 256) C dX1_load_256 ?_
              refine at_iastore (pc := 257) C (kf1_2 hk0) b7 dX1_load_257 ?_
              refine at_sub (lv' := [(0, vr g v0), (3, vr g v3), (4, vi v4), (5, vi v5)]) [2, 3, 4, 5] rfl ?_
              exact J258 v5 (upI (upI (upI σ (v0 + 2) (σ.1 (v3 + 1) v5) (js (σ.1 (v0 + 2) (σ.1 (v3 + 1) v5)) (σ.1 (v3 + 3) v5))) (v0 + 2) (σ.1 (v3 + 2) v5) (js ((upI σ (v0 + 2) (σ.1 (v3 + 1) v5) (js (σ.1 (v0 + 2) (σ.1 (v3 + 1) v5)) (σ.1 (v3 + 3) v5))).1 (v0 + 2) (σ.1 (v3 + 2) v5)) ((upI σ (v0 + 2) (σ.1 (v3 + 1) v5) (js (σ.1 (v0 + 2) (σ.1 (v3 + 1) v5)) (σ.1 (v3 + 3) v5))).1 (v3 + 3) v5))) (v0 + 3) (ja (jm (σ.1 (v3 + 1) v5) 12) (σ.1 (v3 + 2) v5)) (js ((upI (upI σ (v0 + 2) (σ.1 (v3 + 1) v5) (js (σ.1 (v0 + 2) (σ.1 (v3 + 1) v5)) (σ.1 (v3 + 3) v5))) (v0 + 2) (σ.1 (v3 + 2) v5) (js ((upI σ (v0 + 2) (σ.1 (v3 + 1) v5) (js (σ.1 (v0 + 2) (σ.1 (v3 + 1) v5)) (σ.1 (v3 + 3) v5))).1 (v0 + 2) (σ.1 (v3 + 2) v5)) ((upI σ (v0 + 2) (σ.1 (v3 + 1) v5) (js (σ.1 (v0 + 2) (σ.1 (v3 + 1) v5)) (σ.1 (v3 + 3) v5))).1 (v3 + 3) v5))).1 (v0 + 3) (ja (jm (σ.1 (v3 + 1) v5) 12) (σ.1 (v3 + 2) v5))) ((upI (upI σ (v0 + 2) (σ.1 (v3 + 1) v5) (js (σ.1 (v0 + 2) (σ.1 (v3 + 1) v5)) (σ.1 (v3 + 3) v5))) (v0 + 2) (σ.1 (v3 + 2) v5) (js ((upI σ (v0 + 2) (σ.1 (v3 + 1) v5) (js (σ.1 (v0 + 2) (σ.1 (v3 + 1) v5)) (σ.1 (v3 + 3) v5))).1 (v0 + 2) (σ.1 (v3 + 2) v5)) ((upI σ (v0 + 2) (σ.1 (v3 + 1) v5) (js (σ.1 (v0 + 2) (σ.1 (v3 + 1) v5)) (σ.1 (v3 + 3) v5))).1 (v3 + 3) v5))).1 (v3 + 3) v5))) h5 (OK_up (k := (v0 + 3)) (j := (ja (jm (σ.1 (v3 + 1) v5) 12) (σ.1 (v3 + 2) v5))) (OK_up (k := (v0 + 2)) (j := (σ.1 (v3 + 2) v5)) (OK_up (k := (v0 + 2)) (j := (σ.1 (v3 + 1) v5)) ok (js_R (σ.1 (v0 + 2) (σ.1 (v3 + 1) v5)) (σ.1 (v3 + 3) v5))) (js_R ((upI σ (v0 + 2) (σ.1 (v3 + 1) v5) (js (σ.1 (v0 + 2) (σ.1 (v3 + 1) v5)) (σ.1 (v3 + 3) v5))).1 (v0 + 2) (σ.1 (v3 + 2) v5)) ((upI σ (v0 + 2) (σ.1 (v3 + 1) v5) (js (σ.1 (v0 + 2) (σ.1 (v3 + 1) v5)) (σ.1 (v3 + 3) v5))).1 (v3 + 3) v5))) (js_R ((upI (upI σ (v0 + 2) (σ.1 (v3 + 1) v5) (js (σ.1 (v0 + 2) (σ.1 (v3 + 1) v5)) (σ.1 (v3 + 3) v5))) (v0 + 2) (σ.1 (v3 + 2) v5) (js ((upI σ (v0 + 2) (σ.1 (v3 + 1) v5) (js (σ.1 (v0 + 2) (σ.1 (v3 + 1) v5)) (σ.1 (v3 + 3) v5))).1 (v0 + 2) (σ.1 (v3 + 2) v5)) ((upI σ (v0 + 2) (σ.1 (v3 + 1) v5) (js (σ.1 (v0 + 2) (σ.1 (v3 + 1) v5)) (σ.1 (v3 + 3) v5))).1 (v3 + 3) v5))).1 (v0 + 3) (ja (jm (σ.1 (v3 + 1) v5) 12) (σ.1 (v3 + 2) v5))) ((upI (upI σ (v0 + 2) (σ.1 (v3 + 1) v5) (js (σ.1 (v0 + 2) (σ.1 (v3 + 1) v5)) (σ.1 (v3 + 3) v5))) (v0 + 2) (σ.1 (v3 + 2) v5) (js ((upI σ (v0 + 2) (σ.1 (v3 + 1) v5) (js (σ.1 (v0 + 2) (σ.1 (v3 + 1) v5)) (σ.1 (v3 + 3) v5))).1 (v0 + 2) (σ.1 (v3 + 2) v5)) ((upI σ (v0 + 2) (σ.1 (v3 + 1) v5) (js (σ.1 (v0 + 2) (σ.1 (v3 + 1) v5)) (σ.1 (v3 + 3) v5))).1 (v3 + 3) v5))).1 (v3 + 3) v5))) hF
      refine at_sub (lv' := [(0, vr g v0), (3, vr g v3), (4, vi v4), (5, vi 0)]) [1, 2, 3, 0] rfl ?_
      exact L154 v0 v3 v4 0 σ hk0 hk3 h4 (isB.r (Or.inl rfl)) ok hF
    refine at_iload (pc := 11) C 5 dX1_load_11 rfl ?_
    refine at_aload_n (pc := 13) C 0 dX1_load_13 rfl rfl ?_
    refine at_geti (pc := 14) (jz := 11) C fw_1_46 hk0 rfl (Nat.le_of_ble_eq_true rfl) rfl rfl dX1_load_14 ?_
    refine at_icmp_ge (pc := 17) (tgt := 151) C h5 (ok v0 11) dX1_load_17 rfl (fun c8 => ?_) (fun c8 => ?_)
    · have hF := (if_pos c8).symm.trans hF
      refine at_sub (lv' := [(0, vr g v0), (3, vr g v3), (4, vi v4)]) [0, 3, 4] rfl ?_
      exact J151 v0 v3 v4 σ hk0 hk3 h4 ok hF
    · have hF := (if_neg c8).symm.trans hF
      have J35 : ∀ (v5 : Int) (t0 : Int) (σ : Sto), inR v5 → isB t0 → OK σ → F_X1_load_J35 N nx11 v0 v1 v2 v3 v4 v5 t0 σ = some res → At p l e rm_X1_load s m args below meth c 0 0 g 9 (MQ below (QV g s.heap.size res) args s 0 0 (AA g s.heap.size)) 35 [(0, vr g v0), (1, vr g v1), (2, vr g v2), (3, vr g v3), (4, vi v4), (5, vi v5)] [vi t0] σ := by
        intro v5 t0 σ h5 ht0 ok hF
        unfold F_X1_load_J35 at hF
        have J58 : ∀ (v5 : Int) (v6 : Int) (t1 : Int) (t2 : Int) (σ : Sto), inR v5 → isB v6 → inR t1 → inR t2 → OK σ → F_X1_load_J58 N nx11 v0 v1 v2 v3 v4 v5 v6 t1 t2 σ = some res → At p l e rm_X1_load s m args below meth c 0 0 g 9 (MQ below (QV g s.heap.size res) args s 0 0 (AA g s.heap.size)) 58 [(0, vr g v0), (1, vr g v1), (2, vr g v2), (3, vr g v3), (4, vi v4), (5, vi v5), (6, vi v6)] [vi t2, vi t1, vr g (v0 + 1)] σ := by
          intro v5 v6 t1 t2 σ h5 h6 ht1 ht2 ok hF
          unfold F_X1_load_J58 at hF
          have J84 : ∀ (v5 : Int) (t1 : Int) (t2 : Int) (σ : Sto), inR v5 → inR t1 → inR t2 → OK σ → F_X1_load_J84 N nx11 v0 v1 v2 v3 v4 v5 t1 t2 σ = some res → At p l e rm_X1_load s m args below meth c 0 0 g 9 (MQ below (QV g s.heap.size res) args s 0 0 (AA g s.heap.size)) 84 [(0, vr g v0), (1, vr g v1), (2, vr g v2), (3, vr g v3), (4, vi v4), (5, vi v5)] [vi t2, vi t1, vr g (v0 + 2)] σ := by
            intro v5 t1 t2 σ h5 ht1 ht2 ok hF
            unfold F_X1_load_J84 at hF
            obtain ⟨b9, hF⟩ := inb_some hF
            refine at_iastore (pc := 84) C (kf1_1 hk0) b9 dX1_load_84 ?_
            refine at_iconst (pc := 85) C dX1_load_85 ?_
            refine at_istore (pc := 86) (lv' := [(7, vi 0), (0, vr g v0), (1, vr g v1), (2, vr g v2), (3, vr g v3), (4, vi v4), (5, vi v5)]) C dX1_load_86 (Nat.le_of_ble_eq_true rfl) rfl ?_
            have L88 : ∀ (v5 : Int) (v7 : Int) (σ : Sto), inR v5 → inR v7 → OK σ → loopK (fun q nx88 => F_X1_load_B88 N nx11 nx88 v0 v1 v2 v3 v4 v5 q.1 q.2) N (v7, σ) = some res → At p l e rm_X1_load s m args below meth c 0 0 g 9 (MQ below (QV g s.heap.size res) args s 0 0 (AA g s.heap.size)) 88 [(0, vr g v0), (1, vr g v1), (2, vr g v2), (3, vr g v3), (4, vi v4), (5, vi v5), (7, vi v7)] [] σ := by
              intro v5 v7 σ h5 h7 ok hF
              refine loopK_ind (res := res) (P := fun (q : Int × Sto) => inR q.1 → OK q.2 → At p l e rm_X1_load s m args below meth c 0 0 g 9 (MQ below (QV g s.heap.size res) args s 0 0 (AA g s.heap.size)) 88 [(0, vr g v0), (1, vr g v1), (2, vr g v2), (3, vr g v3), (4, vi v4), (5, vi v5), (7, vi q.1)] [] q.2) ?_ N _ hF h7 ok
              intro nx88 q ih88 hF
              obtain ⟨v7, σ⟩ := q
              intro h7 ok
              have hF : F_X1_load_B88 N nx11 nx88 v0 v1 v2 v3 v4 v5 v7 σ = some res := hF
              unfold F_X1_load_B88 at hF
              have J145 : ∀ (v5 : Int) (σ : Sto), inR v5 → OK σ → F_X1_load_J145 N nx11 v0 v1 v2 v3 v4 v5 σ = some res → At p l e rm_X1_load s m args below meth c 0 0 g 9 (MQ below (QV g s.heap.size res) args s 0 0 (AA g s.heap.size)) 145 [(0, vr g v0), (1, vr g v1), (2, vr g v2), (3, vr g v3), (4, vi v4), (5, vi v5)] [] σ := by
                intro v5 σ h5 ok hF
                unfold F_X1_load_J145 at hF
                refine at_iinc (pc := 145) (lv' := [(5, vi (ja v5 1)), (0, vr g v0), (1, vr g v1), (2, vr g v2), (3, vr g v3), (4, vi v4)]) C 5 dX1_load_145 rfl (Nat.le_of_ble_eq_true rfl) rfl ?_
                refine at_goto (pc := 148) (tgt := 11) C dX1_load_148 rfl ?_
                refine at_sub (lv' := [(0, vr g v0), (1, vr g v1), (2, vr g v2), (3, vr g v3), (4, vi v4), (5, vi (ja v5 1))]) [1, 2, 3, 4, 5, 0] rfl ?_
                exact ih11 _ hF (ja_R v5 1) ok
              refine at_iload (pc := 88) C 6 dX1_load_88 rfl ?_
              refine at_aload_n (pc := 90) C 0 dX1_load_90 rfl rfl ?_
              refine at_geti (pc := 91) (jz := 11) C fw_1_46 hk0 rfl (Nat.le_of_ble_eq_true rfl) rfl rfl dX1_load_91 ?_
              refine at_icmp_ge (pc := 94) (tgt := 145) C h7 (ok v0 11) dX1_load_94 rfl (fun c10 => ?_) (fun c10 => ?_)
              · have hF := (if_pos c10).symm.trans hF
                refine at_sub (lv' := [(0, vr g v0), (1, vr g v1), (2, vr g v2), (3, vr g v3), (4, vi v4), (5, vi v5)]) [0, 1, 2, 3, 4, 5] rfl ?_
                exact J145 v5 σ h5 ok hF
              · have hF := (if_neg c10).symm.trans hF
                refine at_iload (pc := 97) C 5 dX1_load_97 rfl ?_
                refine at_bipush (pc := 99) C dX1_load_99 (by decide) ?_
                refine at_imul (pc := 101) C dX1_load_101 ?_
                refine at_iload (pc := 102) C 6 dX1_load_102 rfl ?_
                refine at_iadd (pc := 104) C dX1_load_104 ?_
                refine at_istore (pc := 105) (lv' := [(8, vi (ja (jm v5 12) v7)), (0, vr g v0), (1, vr g v1), (2, vr g v2), (3, vr g v3), (4, vi v4), (5, vi v5), (7, vi v7)]) C dX1_load_105 (Nat.le_of_ble_eq_true rfl) rfl ?_
                refine at_aload_n (pc := 107) C 1 dX1_load_107 rfl rfl ?_
                refine at_getr (pc := 108) C 3 fw_1_18 hk0 rfl (Nat.le_of_ble_eq_true rfl) rfl rfl dX1_load_108 ?_
                refine at_iload (pc := 111) C 0 dX1_load_111 rfl ?_
                refine at_iconst (pc := 113) C dX1_load_113 ?_
                refine at_aload_n (pc := 114) C 3 dX1_load_114 rfl rfl ?_
                refine at_getr (pc := 115) C 1 fw_1_70 hk2 rfl (Nat.le_of_ble_eq_true rfl) rfl rfl dX1_load_115 ?_
                refine at_iload (pc := 118) C 0 dX1_load_118 rfl ?_
                obtain ⟨b11, hF⟩ := inb_some hF
                refine at_iaload (pc := 120) C (kf6_0 hk2) b11 dX1_load_120 ?_
                refine at_mmax (pc := 121) C km_max w958 (isB.r (Or.inl rfl)) (ok (v2 + 1) (ja (jm v5 12) v7)) ⟨(Nat.le_of_ble_eq_true rfl), (Nat.le_of_ble_eq_true rfl)⟩ dX1_load_121 ?_
                refine at_iastore (pc := 124) C (kf1_2 hk0) b11 dX1_load_124 ?_
                refine at_aload_n (pc := 125) C 1 dX1_load_125 rfl rfl ?_
                refine at_getr (pc := 126) C 4 fw_1_21 hk0 rfl (Nat.le_of_ble_eq_true rfl) rfl rfl dX1_load_126 ?_
                refine at_iload (pc := 129) C 0 dX1_load_129 rfl ?_
                refine at_aload_n (pc := 131) C 3 dX1_load_131 rfl rfl ?_
                refine at_getr (pc := 132) C 2 fw_1_79 hk2 rfl (Nat.le_of_ble_eq_true rfl) rfl rfl dX1_load_132 ?_
                refine at_iload (pc := 135) C 0 dX1_load_135 rfl ?_
                refine at_iaload (pc := 137) C (kf6_1 hk2) b11 dX1_load_137 ?_
                refine at_iastore (pc := 138) C (kf1_3 hk0) b11 dX1_load_138 ?_
                refine at_iinc (pc := 139) (lv' := [(7, vi (ja v7 1)), (8, vi (ja (jm v5 12) v7)), (0, vr g v0), (1, vr g v1), (2, vr g v2), (3, vr g v3), (4, vi v4), (5, vi v5)]) C 7 dX1_load_139 rfl (Nat.le_of_ble_eq_true rfl) rfl ?_
                refine at_goto (pc := 142) (tgt := 88) C dX1_load_142 rfl ?_
                refine at_sub (lv' := [(0, vr g v0), (1, vr g v1), (2, vr g v2), (3, vr g v3), (4, vi v4), (5, vi v5), (7, vi (ja v7 1))]) [2, 3, 4, 5, 6, 7, 0] rfl ?_
                exact ih88 _ hF (ja_R v7 1) (OK_up (k := (v0 + 4)) (j := (ja (jm v5 12) v7)) (OK_up (k := (v0 + 3)) (j := (ja (jm v5 12) v7)) ok (jmax_R (isB.r (Or.inl rfl)) (ok (v2 + 1) (ja (jm v5 12) v7)))) ((OK_up (k := (v0 + 3)) (j := (ja (jm v5 12) v7)) ok (jmax_R (isB.r (Or.inl rfl)) (ok (v2 + 1) (ja (jm v5 12) v7)))) (v2 + 2) (ja (jm v5 12) v7)))
            refine at_sub (lv' := [(0, vr g v0), (1, vr g v1), (2, vr g v2), (3, vr g v3), (4, vi v4), (5, vi v5), (7, vi 0)]) [1, 2, 3, 4, 5, 6, 0] rfl ?_
            exact L88 v5 0 (upI σ (v0 + 2) t1 t2) h5 (isB.r (Or.inl rfl)) (OK_up (k := (v0 + 2)) (j := t1) ok ht2) hF
          obtain ⟨b12, hF⟩ := inb_some hF
          refine at_iastore (pc := 58) C (kf1_0 hk0) b12 dX1_load_58 ?_
          refine at_aload_n (pc := 59) C 0 dX1_load_59 rfl rfl ?_
          refine at_getr (pc := 60) C 2 fw_1_15 hk0 rfl (Nat.le_of_ble_eq_true rfl) rfl rfl dX1_load_60 ?_
          refine at_iload (pc := 63) C 5 dX1_load_63 rfl ?_
          refine at_iload (pc := 65) C 6 dX1_load_65 rfl ?_
          refine at_if_eq (pc := 67) (tgt := 83) C (isB.r h6) dX1_load_67 rfl (fun c13 => ?_) (fun c13 => ?_)
          · have hF := (if_pos c13).symm.trans hF
            refine at_iconst (pc := 83) C dX1_load_83 ?_
            refine at_sub (lv' := [(0, vr g v0), (1, vr g v1), (2, vr g v2), (3, vr g v3), (4, vi v4), (5, vi v5)]) [0, 1, 2, 3, 4, 5] rfl ?_
            exact J84 v5 v5 0 (upI σ (v0 + 1) t1 t2) h5 h5 (isB.r (Or.inl rfl)) (OK_up (k := (v0 + 1)) (j := t1) ok ht2) hF
          · have hF := (if_neg c13).symm.trans hF
            refine at_aload_n (pc := 70) C 1 dX1_load_70 rfl rfl ?_
            refine at_getr (pc := 71) C 7 fw_1_62 hk1 rfl (Nat.le_of_ble_eq_true rfl) rfl rfl dX1_load_71 ?_
            refine at_iload (pc := 74) C 5 dX1_load_74 rfl ?_
            obtain ⟨b14, hF⟩ := inb_some hF
            refine at_iaload (pc := 76) C (kf0_6 hk1) b14 dX1_load_76 ?_
            refine at_mabs (pc := 77) C km_abs w957 ((OK_up (k := (v0 + 1)) (j := t1) ok ht2) (v1 + 7) v5) ⟨(Nat.le_of_ble_eq_true rfl), (Nat.le_of_ble_eq_true rfl)⟩ dX1_load_77 ?_
            refine at_goto (pc := 80) (tgt := 84) C dX1_load_80 rfl ?_
            refine at_sub (lv' := [(0, vr g v0), (1, vr g v1), (2, vr g v2), (3, vr g v3), (4, vi v4), (5, vi v5)]) [0, 1, 2, 3, 4, 5] rfl ?_
            exact J84 v5 v5 (jabs ((upI σ (v0 + 1) t1 t2).1 (v1 + 7) v5)) (upI σ (v0 + 1) t1 t2) h5 h5 (jabs_R ((OK_up (k := (v0 + 1)) (j := t1) ok ht2) (v1 + 7) v5)) (OK_up (k := (v0 + 1)) (j := t1) ok ht2) hF
        refine at_istore (pc := 35) (lv' := [(6, vi t0), (0, vr g v0), (1, vr g v1), (2, vr g v2), (3, vr g v3), (4, vi v4), (5, vi v5)]) C dX1_load_35 (Nat.le_of_ble_eq_true rfl) rfl ?_
        refine at_aload_n (pc := 37) C 1 dX1_load_37 rfl rfl ?_
        refine at_getr (pc := 38) C 1 fw_1_9 hk0 rfl (Nat.le_of_ble_eq_true rfl) rfl rfl dX1_load_38 ?_
        refine at_iload (pc := 41) C 6 dX1_load_41 rfl ?_
        refine at_iload (pc := 43) C 0 dX1_load_43 rfl ?_
        refine at_if_eq (pc := 45) (tgt := 57) C (isB.r ht0) dX1_load_45 rfl (fun c15 => ?_) (fun c15 => ?_)
        · have hF := (if_pos c15).symm.trans hF
          refine at_iconst (pc := 57) C dX1_load_57 ?_
          refine at_sub (lv' := [(0, vr g v0), (1, vr g v1), (2, vr g v2), (3, vr g v3), (4, vi v4), (5, vi v5), (6, vi t0)]) [1, 2, 3, 4, 5, 6, 0] rfl ?_
          exact J58 v5 t0 v5 0 σ h5 ht0 h5 (isB.r (Or.inl rfl)) ok hF
        · have hF := (if_neg c15).symm.trans hF
          refine at_aload_n (pc := 48) C 2 dX1_load_48 rfl rfl ?_
          refine at_iload (pc := 49) C 6 dX1_load_49 rfl ?_
          obtain ⟨q16, eq16, hF⟩ := bind_some' hF
          refine at_callV (pc := 51) (ci := 0) C (c_X0_signOf l g N v1 v5 σ q16 hk1 h5 ok eq16) kv_X0_signOf w953 hk1 rfl rfl rfl rfl (Nat.le_of_ble_eq_true rfl) ⟨rfl, rfl, (Nat.le_of_ble_eq_true rfl), (Nat.le_of_ble_eq_true rfl)⟩ dX1_load_51 (fun tq16 okq16 => ?_)
          refine at_goto (pc := 54) (tgt := 58) C dX1_load_54 rfl ?_
          refine at_sub (lv' := [(0, vr g v0), (1, vr g v1), (2, vr g v2), (3, vr g v3), (4, vi v4), (5, vi v5), (6, vi t0)]) [1, 2, 3, 4, 5, 6, 0] rfl ?_
          exact J58 v5 t0 v5 q16 σ h5 ht0 h5 tq16 ok hF
      refine at_iload (pc := 20) C 4 dX1_load_20 rfl ?_
      refine at_iload (pc := 22) C 5 dX1_load_22 rfl ?_
      refine at_ishr (pc := 24) C dX1_load_24 ?_
      refine at_iconst (pc := 25) C dX1_load_25 ?_
      refine at_iand (pc := 26) C dX1_load_26 ?_
      refine at_if_ne (pc := 27) (tgt := 34) C (jand_R (jshr v4 v5) 1) dX1_load_27 rfl (fun c17 => ?_) (fun c17 => ?_)
      · have hF := (if_neg c17).symm.trans hF
        refine at_iconst (pc := 34) C dX1_load_34 ?_
        exact J35 v5 0 σ h5 (Or.inl rfl) ok hF
      · have hF := (if_pos c17).symm.trans hF
        refine at_iconst (pc := 30) C dX1_load_30 ?_
        refine at_goto (pc := 31) (tgt := 35) C dX1_load_31 rfl ?_
        exact J35 v5 1 σ h5 (Or.inr rfl) ok hF
  refine at_sub (lv' := [(0, vr g v0), (1, vr g v1), (2, vr g v2), (3, vr g v3), (4, vi v4), (5, vi 0)]) [1, 2, 3, 4, 5, 0] rfl ?_
  exact L11 v0 v1 v2 v3 v4 0 (upI σ v0 11 (σ.1 v1 9)) hk0 hk1 hk2 hk3 h4 (isB.r (Or.inl rfl)) (OK_up (k := v0) (j := 11) ok (ok v1 9)) hF
abbrev rm_X1_isBetter : Room := { frames := 0, cells := 0, slots := 0, locals := 0 }
def F_X1_isBetter_J30 (N : Nat)   (σ : Sto) : Option (Int) :=
  some 1
def F_X1_isBetter_J34 (N : Nat)   (σ : Sto) : Option (Int) :=
  some 0
def F_X1_isBetter (N : Nat) (v0 : Nat) (v1 : Int) (v2 : Int) (v3 : Int) (σ : Sto) : Option (Int) :=
  inb v3 12 (if v1 < (σ.1 (v0 + 6) v3) then (F_X1_isBetter_J30 N   σ) else (if v1 = (σ.1 (v0 + 6) v3) then (if (σ.1 (v0 + 7) v3) ≤ v2 then (F_X1_isBetter_J34 N   σ) else (F_X1_isBetter_J30 N   σ)) else (F_X1_isBetter_J34 N   σ)))
set_option maxHeartbeats 4000000 in
set_option maxRecDepth 100000 in
theorem c_X1_isBetter (l : Launch) (g : Geo) (N : Nat) (v0 : Nat) (v1 : Int) (v2 : Int) (v3 : Int) (σ : Sto) (res : Int) (hk0 : knd v0 = (11, 14)) (h1 : inR v1) (h2 : inR v2) (h3 : inR v3) (ok : OK σ) (hF : F_X1_isBetter N v0 v1 v2 v3 σ = some res) : MtI l g yX1_isBetter cX1_isBetter 4 (some .boolean) rm_X1_isBetter [vr g v0, vi v1, vi v2, vi v3] σ res σ isB := by
  intro sz
  refine Met.ofAt (own := RX1) (QQ := fun z => QI g z res σ isB) (by decide +kernel) (Nat.le_of_ble_eq_true rfl) rfl ?_
  intro p e s m args below meth c C hr hlk
  show At p l e rm_X1_isBetter s m args below meth c 0 0 g 4 (MQ below (QI g s.heap.size res σ isB) args s 0 0 (AA g s.heap.size)) 0 [(0, vr g v0), (1, vi v1), (2, vi v2), (3, vi v3)] [] σ
  unfold F_X1_isBetter at hF
  have J30 : F_X1_isBetter_J30 N   σ = some res → At p l e rm_X1_isBetter s m args below meth c 0 0 g 4 (MQ below (QI g s.heap.size res σ isB) args s 0 0 (AA g s.heap.size)) 30 [] [] σ := by
    intro   hF
    unfold F_X1_isBetter_J30 at hF
    refine at_iconst (pc := 30) C dX1_isBetter_30 ?_
    refine at_goto (pc := 31) (tgt := 35) C dX1_isBetter_31 rfl ?_
    obtain rfl := Option.some.inj hF
    exact at_zret (pc := 35) C hr hlk (Or.inr rfl) ok dX1_isBetter_35
  refine at_iload_n (pc := 0) C 1 dX1_isBetter_0 rfl rfl ?_
  refine at_aload_n (pc := 1) C 0 dX1_isBetter_1 rfl rfl ?_
  refine at_getr (pc := 2) C 6 fw_1_27 hk0 rfl (Nat.le_of_ble_eq_true rfl) rfl rfl dX1_isBetter_2 ?_
  refine at_iload_n (pc := 5) C 3 dX1_isBetter_5 rfl rfl ?_
  obtain ⟨b1, hF⟩ := inb_some hF
  refine at_iaload (pc := 6) C (kf1_5 hk0) b1 dX1_isBetter_6 ?_
  refine at_icmp_lt (pc := 7) (tgt := 30) C h1 (ok (v0 + 6) v3) dX1_isBetter_7 rfl (fun c2 => ?_) (fun c2 => ?_)
  · have hF := (if_pos c2).symm.trans hF
    refine at_sub (lv' := []) [] rfl ?_
    exact J30  hF
  · have hF := (if_neg c2).symm.trans hF
    have J34 : F_X1_isBetter_J34 N   σ = some res → At p l e rm_X1_isBetter s m args below meth c 0 0 g 4 (MQ below (QI g s.heap.size res σ isB) args s 0 0 (AA g s.heap.size)) 34 [] [] σ := by
      intro   hF
      unfold F_X1_isBetter_J34 at hF
      refine at_iconst (pc := 34) C dX1_isBetter_34 ?_
      obtain rfl := Option.some.inj hF
      exact at_zret (pc := 35) C hr hlk (Or.inl rfl) ok dX1_isBetter_35
    refine at_iload_n (pc := 10) C 1 dX1_isBetter_10 rfl rfl ?_
    refine at_aload_n (pc := 11) C 0 dX1_isBetter_11 rfl rfl ?_
    refine at_getr (pc := 12) C 6 fw_1_27 hk0 rfl (Nat.le_of_ble_eq_true rfl) rfl rfl dX1_isBetter_12 ?_
    refine at_iload_n (pc := 15) C 3 dX1_isBetter_15 rfl rfl ?_
    refine at_iaload (pc := 16) C (kf1_5 hk0) b1 dX1_isBetter_16 ?_
    refine at_icmp_ne (pc := 17) (tgt := 34) C h1 (ok (v0 + 6) v3) dX1_isBetter_17 rfl (fun c3 => ?_) (fun c3 => ?_)
    · have hF := (if_neg c3).symm.trans hF
      refine at_sub (lv' := []) [] rfl ?_
      exact J34  hF
    · have hF := (if_pos c3).symm.trans hF
      refine at_iload_n (pc := 20) C 2 dX1_isBetter_20 rfl rfl ?_
      refine at_aload_n (pc := 21) C 0 dX1_isBetter_21 rfl rfl ?_
      refine at_getr (pc := 22) C 7 fw_1_30 hk0 rfl (Nat.le_of_ble_eq_true rfl) rfl rfl dX1_isBetter_22 ?_
      refine at_iload_n (pc := 25) C 3 dX1_isBetter_25 rfl rfl ?_
      refine at_iaload (pc := 26) C (kf1_6 hk0) b1 dX1_isBetter_26 ?_
      refine at_icmp_ge (pc := 27) (tgt := 34) C h2 (ok (v0 + 7) v3) dX1_isBetter_27 rfl (fun c4 => ?_) (fun c4 => ?_)
      · have hF := (if_pos c4).symm.trans hF
        refine at_sub (lv' := []) [] rfl ?_
        exact J34  hF
      · have hF := (if_neg c4).symm.trans hF
        refine at_sub (lv' := []) [] rfl ?_
        exact J30  hF
abbrev rm_X1_improve : Room := { frames := 1, cells := 0, slots := 0, locals := 23 }
def F_X1_improve_J54 (N : Nat)  (v0 : Nat) (v1 : Int) (v4 : Int) (v5 : Int) (σ : Sto) : Option (Int × Sto) :=
  inb v1 12 (some (1, (upI (upI σ (v0 + 6) v1 v4) (v0 + 7) v1 v5)))
def F_X1_improve (N : Nat) (v0 : Nat) (v1 : Int) (v2 : Int) (v3 : Int) (σ : Sto) : Option (Int × Sto) :=
  inb v2 12 (if (σ.1 (v0 + 7) v2) = 0 then (some (0, σ)) else (inb v1 12 (if (σ.1 (v0 + 7) v1) = 0 then (F_X1_improve_J54 N  v0 v1 (ja (σ.1 (v0 + 6) v2) v3) (ja (σ.1 (v0 + 7) v2) 1) σ) else ((F_X1_isBetter N v0 (ja (σ.1 (v0 + 6) v2) v3) (ja (σ.1 (v0 + 7) v2) 1) v1 σ).bind (fun q6 => if q6 = 0 then (some (0, σ)) else (F_X1_improve_J54 N  v0 v1 (ja (σ.1 (v0 + 6) v2) v3) (ja (σ.1 (v0 + 7) v2) 1) σ))))))
set_option maxHeartbeats 4000000 in
set_option maxRecDepth 100000 in
theorem c_X1_improve (l : Launch) (g : Geo) (N : Nat) (v0 : Nat) (v1 : Int) (v2 : Int) (v3 : Int) (σ : Sto) (res : Int × Sto) (hk0 : knd v0 = (11, 14)) (h1 : inR v1) (h2 : inR v2) (h3 : inR v3) (ok : OK σ) (hF : F_X1_improve N v0 v1 v2 v3 σ = some res) : MtI l g yX1_improve cX1_improve 6 (some .boolean) rm_X1_improve [vr g v0, vi v1, vi v2, vi v3] σ res.1 res.2 isB := by
  intro sz
  refine Met.ofAt (own := RX1) (QQ := fun z => QI g z res.1 res.2 isB) (by decide +kernel) (Nat.le_of_ble_eq_true rfl) rfl ?_
  intro p e s m args below meth c C hr hlk
  show At p l e rm_X1_improve s m args below meth c 0 0 g 6 (MQ below (QI g s.heap.size res.1 res.2 isB) args s 0 0 (AA g s.heap.size)) 0 [(0, vr g v0), (1, vi v1), (2, vi v2), (3, vi v3)] [] σ
  unfold F_X1_improve at hF
  refine at_aload_n (pc := 0) C 0 dX1_improve_0 rfl rfl ?_
  refine at_getr (pc := 1) C 7 fw_1_30 hk0 rfl (Nat.le_of_ble_eq_true rfl) rfl rfl dX1_improve_1 ?_
  refine at_iload_n (pc := 4) C 2 dX1_improve_4 rfl rfl ?_
  obtain ⟨b1, hF⟩ := inb_some hF
  refine at_iaload (pc := 5) C (kf1_6 hk0) b1 dX1_improve_5 ?_
  refine at_if_ne (pc := 6) (tgt := 11) C (ok (v0 + 7) v2) dX1_improve_6 rfl (fun c2 => ?_) (fun c2 => ?_)
  · have hF := (if_neg c2).symm.trans hF
    have J54 : ∀ (v0 : Nat) (v1 : Int) (v4 : Int) (v5 : Int) (σ : Sto), knd v0 = (11, 14) → inR v1 → inR v4 → inR v5 → OK σ → F_X1_improve_J54 N  v0 v1 v4 v5 σ = some res → At p l e rm_X1_improve s m args below meth c 0 0 g 6 (MQ below (QI g s.heap.size res.1 res.2 isB) args s 0 0 (AA g s.heap.size)) 54 [(0, vr g v0), (1, vi v1), (4, vi v4), (5, vi v5)] [] σ := by
      intro v0 v1 v4 v5 σ hk0 h1 h4 h5 ok hF
      unfold F_X1_improve_J54 at hF
      refine at_aload_n (pc := 54) C 0 dX1_improve_54 rfl rfl ?_
      refine at_getr (pc := 55) C 6 fw_1_27 hk0 rfl (Nat.le_of_ble_eq_true rfl) rfl rfl dX1_improve_55 ?_
      refine at_iload_n (pc := 58) C 1 dX1_improve_58 rfl rfl ?_
      refine at_iload (pc := 59) C 2 dX1_improve_59 rfl ?_
      obtain ⟨b3, hF⟩ := inb_some hF
      refine at_iastore (pc := 61) C (kf1_5 hk0) b3 dX1_improve_61 ?_
      refine at_aload_n (pc := 62) C 0 dX1_improve_62 rfl rfl ?_
      refine at_getr (pc := 63) C 7 fw_1_30 hk0 rfl (Nat.le_of_ble_eq_true rfl) rfl rfl dX1_improve_63 ?_
      refine at_iload_n (pc := 66) C 1 dX1_improve_66 rfl rfl ?_
      refine at_iload (pc := 67) C 3 dX1_improve_67 rfl ?_
      refine at_iastore (pc := 69) C (kf1_6 hk0) b3 dX1_improve_69 ?_
      refine at_iconst (pc := 70) C dX1_improve_70 ?_
      obtain rfl := Option.some.inj hF
      exact at_zret (pc := 71) C hr hlk (Or.inr rfl) (OK_up (k := (v0 + 7)) (j := v1) (OK_up (k := (v0 + 6)) (j := v1) ok h4) h5) dX1_improve_71
    refine at_aload_n (pc := 11) C 0 dX1_improve_11 rfl rfl ?_
    refine at_getr (pc := 12) C 6 fw_1_27 hk0 rfl (Nat.le_of_ble_eq_true rfl) rfl rfl dX1_improve_12 ?_
    refine at_iload_n (pc := 15) C 2 dX1_improve_15 rfl rfl ?_
    refine at_iaload (pc := 16) C (kf1_5 hk0) b1 dX1_improve_16 ?_
    refine at_iload_n (pc := 17) C 3 dX1_improve_17 rfl rfl ?_
    refine at_iadd (pc := 18) C dX1_improve_18 ?_
    refine at_istore (pc := 19) (lv' := [(4, vi (ja (σ.1 (v0 + 6) v2) v3)), (0, vr g v0), (1, vi v1), (2, vi v2), (3, vi v3)]) C dX1_improve_19 (Nat.le_of_ble_eq_true rfl) rfl ?_
    refine at_aload_n (pc := 21) C 1 dX1_improve_21 rfl rfl ?_
    refine at_getr (pc := 22) C 7 fw_1_30 hk0 rfl (Nat.le_of_ble_eq_true rfl) rfl rfl dX1_improve_22 ?_
    refine at_iload_n (pc := 25) C 3 dX1_improve_25 rfl rfl ?_
    refine at_iaload (pc := 26) C (kf1_6 hk0) b1 dX1_improve_26 ?_
    refine at_iconst (pc := 27) C dX1_improve_27 ?_
    refine at_iadd (pc := 28) C dX1_improve_28 ?_
    refine at_istore (pc := 29) (lv' := [(5, vi (ja (σ.1 (v0 + 7) v2) 1)), (4, vi (ja (σ.1 (v0 + 6) v2) v3)), (0, vr g v0), (1, vi v1), (2, vi v2), (3, vi v3)]) C dX1_improve_29 (Nat.le_of_ble_eq_true rfl) rfl ?_
    refine at_aload_n (pc := 31) C 2 dX1_improve_31 rfl rfl ?_
    refine at_getr (pc := 32) C 7 fw_1_30 hk0 rfl (Nat.le_of_ble_eq_true rfl) rfl rfl dX1_improve_32 ?_
    refine at_iload_n (pc := 35) C 3 dX1_improve_35 rfl rfl ?_
    obtain ⟨b4, hF⟩ := inb_some hF
    refine at_iaload (pc := 36) C (kf1_6 hk0) b4 dX1_improve_36 ?_
    refine at_if_eq (pc := 37) (tgt := 54) C (ok (v0 + 7) v1) dX1_improve_37 rfl (fun c5 => ?_) (fun c5 => ?_)
    · have hF := (if_pos c5).symm.trans hF
      refine at_sub (lv' := [(0, vr g v0), (1, vi v1), (4, vi (ja (σ.1 (v0 + 6) v2) v3)), (5, vi (ja (σ.1 (v0 + 7) v2) 1))]) [2, 3, 1, 0] rfl ?_
      exact J54 v0 v1 (ja (σ.1 (v0 + 6) v2) v3) (ja (σ.1 (v0 + 7) v2) 1) σ hk0 h1 (ja_R (σ.1 (v0 + 6) v2) v3) (ja_R (σ.1 (v0 + 7) v2) 1) ok hF
    · have hF := (if_neg c5).symm.trans hF
      refine at_aload_n (pc := 40) C 2 dX1_improve_40 rfl rfl ?_
      refine at_iload (pc := 41) C 1 dX1_improve_41 rfl ?_
      refine at_iload (pc := 43) C 0 dX1_improve_43 rfl ?_
      refine at_iload_n (pc := 45) C 3 dX1_improve_45 rfl rfl ?_
      obtain ⟨q6, eq6, hF⟩ := bind_some' hF
      refine at_callV (pc := 46) (ci := 1) C (c_X1_isBetter l g N v0 (ja (σ.1 (v0 + 6) v2) v3) (ja (σ.1 (v0 + 7) v2) 1) v1 σ q6 hk0 (ja_R (σ.1 (v0 + 6) v2) v3) (ja_R (σ.1 (v0 + 7) v2) 1) h1 ok eq6) kv_X1_isBetter w976 hk0 rfl rfl rfl rfl (Nat.le_of_ble_eq_true rfl) ⟨rfl, rfl, (Nat.le_of_ble_eq_true rfl), (Nat.le_of_ble_eq_true rfl)⟩ dX1_improve_46 (fun tq6 okq6 => ?_)
      refine at_if_ne (pc := 49) (tgt := 54) C (isB.r tq6) dX1_improve_49 rfl (fun c7 => ?_) (fun c7 => ?_)
      · have hF := (if_neg c7).symm.trans hF
        refine at_sub (lv' := [(0, vr g v0), (1, vi v1), (4, vi (ja (σ.1 (v0 + 6) v2) v3)), (5, vi (ja (σ.1 (v0 + 7) v2) 1))]) [2, 3, 1, 0] rfl ?_
        exact J54 v0 v1 (ja (σ.1 (v0 + 6) v2) v3) (ja (σ.1 (v0 + 7) v2) 1) σ hk0 h1 (ja_R (σ.1 (v0 + 6) v2) v3) (ja_R (σ.1 (v0 + 7) v2) 1) ok hF
      · have hF := (if_pos c7).symm.trans hF
        refine at_iconst (pc := 52) C dX1_improve_52 ?_
        obtain rfl := Option.some.inj hF
        exact at_zret (pc := 53) C hr hlk (Or.inl rfl) ok dX1_improve_53
  · have hF := (if_pos c2).symm.trans hF
    refine at_iconst (pc := 9) C dX1_improve_9 ?_
    obtain rfl := Option.some.inj hF
    exact at_zret (pc := 10) C hr hlk (Or.inl rfl) ok dX1_improve_10
abbrev rm_X1_improveAll : Room := { frames := 2, cells := 0, slots := 0, locals := 48 }
def F_X1_improveAll_J123 (N : Nat) (nx4 : (Int × Int × Sto) → Option (Int × Sto)) (v0 : Nat) (v1 : Int) (v2 : Int) (σ : Sto) : Option (Int × Sto) :=
  nx4 (v1, (ja v2 1), σ)
def F_X1_improveAll_J117 (N : Nat) (nx4 : (Int × Int × Sto) → Option (Int × Sto)) (nx14 : (Int × Int × Sto) → Option (Int × Sto)) (v0 : Nat) (v1 : Int) (v2 : Int) (v3 : Int) (σ : Sto) : Option (Int × Sto) :=
  nx14 (v1, (ja v3 1), σ)
def F_X1_improveAll_J81 (N : Nat) (nx4 : (Int × Int × Sto) → Option (Int × Sto)) (nx14 : (Int × Int × Sto) → Option (Int × Sto)) (v0 : Nat) (v1 : Int) (v2 : Int) (v3 : Int) (v4 : Int) (σ : Sto) : Option (Int × Sto) :=
  inb v3 12 (if (σ.1 (v0 + 1) v3) ≤ 0 then (F_X1_improveAll_J117 N nx4 nx14 v0 v1 v2 v3 σ) else (inb v4 144 (if (σ.1 (v0 + 5) v4) ≤ 0 then (F_X1_improveAll_J117 N nx4 nx14 v0 v1 v2 v3 σ) else ((F_X1_improve N v0 v3 v2 (jneg (σ.1 (v0 + 4) v4)) σ).bind (fun q9 => F_X1_improveAll_J117 N nx4 nx14 v0 (jor v1 q9.1) v2 v3 q9.2)))))
def F_X1_improveAll_B14 (N : Nat) (nx4 : (Int × Int × Sto) → Option (Int × Sto)) (nx14 : (Int × Int × Sto) → Option (Int × Sto)) (v0 : Nat) (v2 : Int) (v1 : Int) (v3 : Int) (σ : Sto) : Option (Int × Sto) :=
  inb v2 12 (if 0 ≤ (σ.1 (v0 + 1) v2) then (F_X1_improveAll_J123 N nx4 v0 v1 v2 σ) else (if (σ.1 v0 11) ≤ v3 then (F_X1_improveAll_J123 N nx4 v0 v1 v2 σ) else (inb v3 12 (if (σ.1 (v0 + 1) v3) ≤ 0 then (F_X1_improveAll_J81 N nx4 nx14 v0 v1 v2 v3 (ja (jm v2 12) v3) σ) else (inb (ja (jm v2 12) v3) 144 (if (σ.1 (v0 + 3) (ja (jm v2 12) v3)) ≤ (σ.1 (v0 + 5) (ja (jm v2 12) v3)) then (F_X1_improveAll_J81 N nx4 nx14 v0 v1 v2 v3 (ja (jm v2 12) v3) σ) else ((F_X1_improve N v0 v2 v3 (σ.1 (v0 + 4) (ja (jm v2 12) v3)) σ).bind (fun q14 => F_X1_improveAll_J81 N nx4 nx14 v0 (jor v1 q14.1) v2 v3 (ja (jm v2 12) v3) q14.2))))))))
def F_X1_improveAll_B4 (N : Nat) (nx4 : (Int × Int × Sto) → Option (Int × Sto)) (v0 : Nat) (v1 : Int) (v2 : Int) (σ : Sto) : Option (Int × Sto) :=
  if (σ.1 v0 11) ≤ v2 then (some (v1, σ)) else (loopK (fun q nx14 => F_X1_improveAll_B14 N nx4 nx14 v0 v2 q.1 q.2.1 q.2.2) N (v1, 0, σ))
def F_X1_improveAll (N : Nat) (v0 : Nat) (σ : Sto) : Option (Int × Sto) :=
  loopK (fun q nx4 => F_X1_improveAll_B4 N  nx4 v0 q.1 q.2.1 q.2.2) N (0, 0, σ)
set_option maxHeartbeats 4000000 in
set_option maxRecDepth 100000 in
theorem c_X1_improveAll (l : Launch) (g : Geo) (N : Nat) (v0 : Nat) (σ : Sto) (res : Int × Sto) (hk0 : knd v0 = (11, 14)) (ok : OK σ) (hF : F_X1_improveAll N v0 σ = some res) : MtI l g yX1_improveAll cX1_improveAll 5 (some .boolean) rm_X1_improveAll [vr g v0] σ res.1 res.2 isB := by
  intro sz
  refine Met.ofAt (own := RX1) (QQ := fun z => QI g z res.1 res.2 isB) (by decide +kernel) (Nat.le_of_ble_eq_true rfl) rfl ?_
  intro p e s m args below meth c C hr hlk
  show At p l e rm_X1_improveAll s m args below meth c 0 0 g 5 (MQ below (QI g s.heap.size res.1 res.2 isB) args s 0 0 (AA g s.heap.size)) 0 [(0, vr g v0)] [] σ
  unfold F_X1_improveAll at hF
  refine at_iconst (pc := 0) C dX1_improveAll_0 ?_
  refine at_istore_n (pc := 1) (lv' := [(1, vi 0), (0, vr g v0)]) C dX1_improveAll_1 rfl (Nat.le_of_ble_eq_true rfl) rfl ?_
  refine at_iconst (pc := 2) C dX1_improveAll_2 ?_
  refine at_istore_n (pc := 3) (lv' := [(2, vi 0), (1, vi 0), (0, vr g v0)]) C dX1_improveAll_3 rfl (Nat.le_of_ble_eq_true rfl) rfl ?_
  have L4 : ∀ (v0 : Nat) (v1 : Int) (v2 : Int) (σ : Sto), knd v0 = (11, 14) → isB v1 → inR v2 → OK σ → loopK (fun q nx4 => F_X1_improveAll_B4 N  nx4 v0 q.1 q.2.1 q.2.2) N (v1, v2, σ) = some res → At p l e rm_X1_improveAll s m args below meth c 0 0 g 5 (MQ below (QI g s.heap.size res.1 res.2 isB) args s 0 0 (AA g s.heap.size)) 4 [(0, vr g v0), (1, vi v1), (2, vi v2)] [] σ := by
    intro v0 v1 v2 σ hk0 h1 h2 ok hF
    refine loopK_ind (res := res) (P := fun (q : Int × Int × Sto) => isB q.1 → inR q.2.1 → OK q.2.2 → At p l e rm_X1_improveAll s m args below meth c 0 0 g 5 (MQ below (QI g s.heap.size res.1 res.2 isB) args s 0 0 (AA g s.heap.size)) 4 [(0, vr g v0), (1, vi q.1), (2, vi q.2.1)] [] q.2.2) ?_ N _ hF h1 h2 ok
    intro nx4 q ih4 hF
    obtain ⟨v1, v2, σ⟩ := q
    intro h1 h2 ok
    have hF : F_X1_improveAll_B4 N  nx4 v0 v1 v2 σ = some res := hF
    unfold F_X1_improveAll_B4 at hF
    refine at_iload_n (pc := 4) C 2 dX1_improveAll_4 rfl rfl ?_
    refine at_aload_n (pc := 5) C 0 dX1_improveAll_5 rfl rfl ?_
    refine at_geti (pc := 6) (jz := 11) C fw_1_46 hk0 rfl (Nat.le_of_ble_eq_true rfl) rfl rfl dX1_improveAll_6 ?_
    refine at_icmp_ge (pc := 9) (tgt := 129) C h2 (ok v0 11) dX1_improveAll_9 rfl (fun c1 => ?_) (fun c1 => ?_)
    · have hF := (if_pos c1).symm.trans hF
      refine at_iload_n (pc := 129) C 1 dX1_improveAll_129 rfl rfl ?_
      obtain rfl := Option.some.inj hF
      exact at_zret (pc := 130) C hr hlk h1 ok dX1_improveAll_130
    · have hF := (if_neg c1).symm.trans hF
      refine at_iconst (pc := 12) C dX1_improveAll_12 ?_
      refine at_istore_n (pc := 13) (lv' := [(3, vi 0), (0, vr g v0), (1, vi v1), (2, vi v2)]) C dX1_improveAll_13 rfl (Nat.le_of_ble_eq_true rfl) rfl ?_
      have L14 : ∀ (v1 : Int) (v2 : Int) (v3 : Int) (σ : Sto), isB v1 → inR v2 → inR v3 → OK σ → loopK (fun q nx14 => F_X1_improveAll_B14 N nx4 nx14 v0 v2 q.1 q.2.1 q.2.2) N (v1, v3, σ) = some res → At p l e rm_X1_improveAll s m args below meth c 0 0 g 5 (MQ below (QI g s.heap.size res.1 res.2 isB) args s 0 0 (AA g s.heap.size)) 14 [(0, vr g v0), (1, vi v1), (2, vi v2), (3, vi v3)] [] σ := by
        intro v1 v2 v3 σ h1 h2 h3 ok hF
        refine loopK_ind (res := res) (P := fun (q : Int × Int × Sto) => isB q.1 → inR q.2.1 → OK q.2.2 → At p l e rm_X1_improveAll s m args below meth c 0 0 g 5 (MQ below (QI g s.heap.size res.1 res.2 isB) args s 0 0 (AA g s.heap.size)) 14 [(0, vr g v0), (1, vi q.1), (2, vi v2), (3, vi q.2.1)] [] q.2.2) ?_ N _ hF h1 h3 ok
        intro nx14 q ih14 hF
        obtain ⟨v1, v3, σ⟩ := q
        intro h1 h3 ok
        have hF : F_X1_improveAll_B14 N nx4 nx14 v0 v2 v1 v3 σ = some res := hF
        unfold F_X1_improveAll_B14 at hF
        have J123 : ∀ (v1 : Int) (v2 : Int) (σ : Sto), isB v1 → inR v2 → OK σ → F_X1_improveAll_J123 N nx4 v0 v1 v2 σ = some res → At p l e rm_X1_improveAll s m args below meth c 0 0 g 5 (MQ below (QI g s.heap.size res.1 res.2 isB) args s 0 0 (AA g s.heap.size)) 123 [(0, vr g v0), (1, vi v1), (2, vi v2)] [] σ := by
          intro v1 v2 σ h1 h2 ok hF
          unfold F_X1_improveAll_J123 at hF
          refine at_iinc (pc := 123) (lv' := [(2, vi (ja v2 1)), (0, vr g v0), (1, vi v1)]) C 2 dX1_improveAll_123 rfl (Nat.le_of_ble_eq_true rfl) rfl ?_
          refine at_goto (pc := 126) (tgt := 4) C dX1_improveAll_126 rfl ?_
          refine at_sub (lv' := [(0, vr g v0), (1, vi v1), (2, vi (ja v2 1))]) [1, 2, 0] rfl ?_
          exact ih4 _ hF h1 (ja_R v2 1) ok
        refine at_aload_n (pc := 14) C 0 dX1_improveAll_14 rfl rfl ?_
        refine at_getr (pc := 15) C 1 fw_1_9 hk0 rfl (Nat.le_of_ble_eq_true rfl) rfl rfl dX1_improveAll_15 ?_
        refine at_iload_n (pc := 18) C 2 dX1_improveAll_18 rfl rfl ?_
        obtain ⟨b2, hF⟩ := inb_some hF
        refine at_iaload (pc := 19) C (kf1_0 hk0) b2 dX1_improveAll_19 ?_
        refine at_if_ge (pc := 20) (tgt := 123) C (ok (v0 + 1) v2) dX1_improveAll_20 rfl (fun c3 => ?_) (fun c3 => ?_)
        · have hF := (if_pos c3).symm.trans hF
          refine at_sub (lv' := [(0, vr g v0), (1, vi v1), (2, vi v2)]) [0, 1, 2] rfl ?_
          exact J123 v1 v2 σ h1 h2 ok hF
        · have hF := (if_neg c3).symm.trans hF
          refine at_iload_n (pc := 23) C 3 dX1_improveAll_23 rfl rfl ?_
          refine at_aload_n (pc := 24) C 0 dX1_improveAll_24 rfl rfl ?_
          refine at_geti (pc := 25) (jz := 11) C fw_1_46 hk0 rfl (Nat.le_of_ble_eq_true rfl) rfl rfl dX1_improveAll_25 ?_
          refine at_icmp_ge (pc := 28) (tgt := 123) C h3 (ok v0 11) dX1_improveAll_28 rfl (fun c4 => ?_) (fun c4 => ?_)
          · have hF := (if_pos c4).symm.trans hF
            refine at_sub (lv' := [(0, vr g v0), (1, vi v1), (2, vi v2)]) [0, 1, 2] rfl ?_
            exact J123 v1 v2 σ h1 h2 ok hF
          · have hF := (if_neg c4).symm.trans hF
            have J81 : ∀ (v1 : Int) (v3 : Int) (v4 : Int) (σ : Sto), isB v1 → inR v3 → inR v4 → OK σ → F_X1_improveAll_J81 N nx4 nx14 v0 v1 v2 v3 v4 σ = some res → At p l e rm_X1_improveAll s m args below meth c 0 0 g 5 (MQ below (QI g s.heap.size res.1 res.2 isB) args s 0 0 (AA g s.heap.size)) 81 [(0, vr g v0), (1, vi v1), (2, vi v2), (3, vi v3), (4, vi v4)] [] σ := by
              intro v1 v3 v4 σ h1 h3 h4 ok hF
              unfold F_X1_improveAll_J81 at hF
              have J117 : ∀ (v1 : Int) (v3 : Int) (σ : Sto), isB v1 → inR v3 → OK σ → F_X1_improveAll_J117 N nx4 nx14 v0 v1 v2 v3 σ = some res → At p l e rm_X1_improveAll s m args below meth c 0 0 g 5 (MQ below (QI g s.heap.size res.1 res.2 isB) args s 0 0 (AA g s.heap.size)) 117 [(0, vr g v0), (1, vi v1), (2, vi v2), (3, vi v3)] [] σ := by
                intro v1 v3 σ h1 h3 ok hF
                unfold F_X1_improveAll_J117 at hF
                refine at_iinc (pc := 117) (lv' := [(3, vi (ja v3 1)), (0, vr g v0), (1, vi v1), (2, vi v2)]) C 3 dX1_improveAll_117 rfl (Nat.le_of_ble_eq_true rfl) rfl ?_
                refine at_goto (pc := 120) (tgt := 14) C dX1_improveAll_120 rfl ?_
                refine at_sub (lv' := [(0, vr g v0), (1, vi v1), (2, vi v2), (3, vi (ja v3 1))]) [1, 2, 3, 0] rfl ?_
                exact ih14 _ hF h1 (ja_R v3 1) ok
              refine at_aload_n (pc := 81) C 0 dX1_improveAll_81 rfl rfl ?_
              refine at_getr (pc := 82) C 1 fw_1_9 hk0 rfl (Nat.le_of_ble_eq_true rfl) rfl rfl dX1_improveAll_82 ?_
              refine at_iload_n (pc := 85) C 3 dX1_improveAll_85 rfl rfl ?_
              obtain ⟨b5, hF⟩ := inb_some hF
              refine at_iaload (pc := 86) C (kf1_0 hk0) b5 dX1_improveAll_86 ?_
              refine at_if_le (pc := 87) (tgt := 117) C (ok (v0 + 1) v3) dX1_improveAll_87 rfl (fun c6 => ?_) (fun c6 => ?_)
              · have hF := (if_pos c6).symm.trans hF
                refine at_sub (lv' := [(0, vr g v0), (1, vi v1), (2, vi v2), (3, vi v3)]) [0, 1, 2, 3] rfl ?_
                exact J117 v1 v3 σ h1 h3 ok hF
              · have hF := (if_neg c6).symm.trans hF
                refine at_aload_n (pc := 90) C 0 dX1_improveAll_90 rfl rfl ?_
                refine at_getr (pc := 91) C 5 fw_1_24 hk0 rfl (Nat.le_of_ble_eq_true rfl) rfl rfl dX1_improveAll_91 ?_
                refine at_iload (pc := 94) C 4 dX1_improveAll_94 rfl ?_
                obtain ⟨b7, hF⟩ := inb_some hF
                refine at_iaload (pc := 96) C (kf1_4 hk0) b7 dX1_improveAll_96 ?_
                refine at_if_le (pc := 97) (tgt := 117) C (ok (v0 + 5) v4) dX1_improveAll_97 rfl (fun c8 => ?_) (fun c8 => ?_)
                · have hF := (if_pos c8).symm.trans hF
                  refine at_sub (lv' := [(0, vr g v0), (1, vi v1), (2, vi v2), (3, vi v3)]) [0, 1, 2, 3] rfl ?_
                  exact J117 v1 v3 σ h1 h3 ok hF
                · have hF := (if_neg c8).symm.trans hF
                  refine at_iload_n (pc := 100) C 1 dX1_improveAll_100 rfl rfl ?_
                  refine at_aload_n (pc := 101) C 0 dX1_improveAll_101 rfl rfl ?_
                  refine at_iload_n (pc := 102) C 3 dX1_improveAll_102 rfl rfl ?_
                  refine at_iload_n (pc := 103) C 2 dX1_improveAll_103 rfl rfl ?_
                  refine at_aload_n (pc := 104) C 0 dX1_improveAll_104 rfl rfl ?_
                  refine at_getr (pc := 105) C 4 fw_1_21 hk0 rfl (Nat.le_of_ble_eq_true rfl) rfl rfl dX1_improveAll_105 ?_
                  refine at_iload (pc := 108) C 4 dX1_improveAll_108 rfl ?_
                  refine at_iaload (pc := 110) C (kf1_3 hk0) b7 dX1_improveAll_110 ?_
                  refine at_ineg (pc := 111) C dX1_improveAll_111 ?_
                  obtain ⟨q9, eq9, hF⟩ := bind_some' hF
                  refine at_callV (pc := 112) (ci := 1) C (c_X1_improve l g N v0 v3 v2 (jneg (σ.1 (v0 + 4) v4)) σ q9 hk0 h3 h2 (jneg_R (σ.1 (v0 + 4) v4)) ok eq9) kv_X1_improve w972 hk0 rfl rfl rfl rfl (Nat.le_of_ble_eq_true rfl) ⟨rfl, rfl, (Nat.le_of_ble_eq_true rfl), (Nat.le_of_ble_eq_true rfl)⟩ dX1_improveAll_112 (fun tq9 okq9 => ?_)
                  refine at_ior (pc := 115) C dX1_improveAll_115 ?_
                  refine at_istore_n (pc := 116) (lv' := [(1, vi (jor v1 q9.1)), (0, vr g v0), (2, vi v2), (3, vi v3), (4, vi v4)]) C dX1_improveAll_116 rfl (Nat.le_of_ble_eq_true rfl) rfl ?_
                  refine at_sub (lv' := [(0, vr g v0), (1, vi (jor v1 q9.1)), (2, vi v2), (3, vi v3)]) [1, 0, 2, 3] rfl ?_
                  exact J117 (jor v1 q9.1) v3 q9.2 (jor_B h1 tq9) h3 okq9 hF
            refine at_iload_n (pc := 31) C 2 dX1_improveAll_31 rfl rfl ?_
            refine at_bipush (pc := 32) C dX1_improveAll_32 (by decide) ?_
            refine at_imul (pc := 34) C dX1_improveAll_34 ?_
            refine at_iload_n (pc := 35) C 3 dX1_improveAll_35 rfl rfl ?_
            refine at_iadd (pc := 36) C dX1_improveAll_36 ?_
            refine at_istore (pc := 37) (lv' := [(4, vi (ja (jm v2 12) v3)), (0, vr g v0), (1, vi v1), (2, vi v2), (3, vi v3)]) C dX1_improveAll_37 (Nat.le_of_ble_eq_true rfl) rfl ?_
            refine at_aload_n (pc := 39) C 1 dX1_improveAll_39 rfl rfl ?_
            refine at_getr (pc := 40) C 1 fw_1_9 hk0 rfl (Nat.le_of_ble_eq_true rfl) rfl rfl dX1_improveAll_40 ?_
            refine at_iload_n (pc := 43) C 4 dX1_improveAll_43 rfl rfl ?_
            obtain ⟨b10, hF⟩ := inb_some hF
            refine at_iaload (pc := 44) C (kf1_0 hk0) b10 dX1_improveAll_44 ?_
            refine at_if_le (pc := 45) (tgt := 81) C (ok (v0 + 1) v3) dX1_improveAll_45 rfl (fun c11 => ?_) (fun c11 => ?_)
            · have hF := (if_pos c11).symm.trans hF
              refine at_sub (lv' := [(0, vr g v0), (1, vi v1), (2, vi v2), (3, vi v3), (4, vi (ja (jm v2 12) v3))]) [1, 2, 3, 4, 0] rfl ?_
              exact J81 v1 v3 (ja (jm v2 12) v3) σ h1 h3 (ja_R (jm v2 12) v3) ok hF
            · have hF := (if_neg c11).symm.trans hF
              refine at_aload_n (pc := 48) C 1 dX1_improveAll_48 rfl rfl ?_
              refine at_getr (pc := 49) C 5 fw_1_24 hk0 rfl (Nat.le_of_ble_eq_true rfl) rfl rfl dX1_improveAll_49 ?_
              refine at_iload (pc := 52) C 0 dX1_improveAll_52 rfl ?_
              obtain ⟨b12, hF⟩ := inb_some hF
              refine at_iaload (pc := 54) C (kf1_4 hk0) b12 dX1_improveAll_54 ?_
              refine at_aload_n (pc := 55) C 1 dX1_improveAll_55 rfl rfl ?_
              refine at_getr (pc := 56) C 3 fw_1_18 hk0 rfl (Nat.le_of_ble_eq_true rfl) rfl rfl dX1_improveAll_56 ?_
              refine at_iload (pc := 59) C 0 dX1_improveAll_59 rfl ?_
              refine at_iaload (pc := 61) C (kf1_2 hk0) b12 dX1_improveAll_61 ?_
              refine at_icmp_ge (pc := 62) (tgt := 81) C (ok (v0 + 5) (ja (jm v2 12) v3)) (ok (v0 + 3) (ja (jm v2 12) v3)) dX1_improveAll_62 rfl (fun c13 => ?_) (fun c13 => ?_)
              · have hF := (if_pos c13).symm.trans hF
                refine at_sub (lv' := [(0, vr g v0), (1, vi v1), (2, vi v2), (3, vi v3), (4, vi (ja (jm v2 12) v3))]) [1, 2, 3, 4, 0] rfl ?_
                exact J81 v1 v3 (ja (jm v2 12) v3) σ h1 h3 (ja_R (jm v2 12) v3) ok hF
              · have hF := (if_neg c13).symm.trans hF
                refine at_iload_n (pc := 65) C 2 dX1_improveAll_65 rfl rfl ?_
                refine at_aload_n (pc := 66) C 1 dX1_improveAll_66 rfl rfl ?_
                refine at_iload_n (pc := 67) C 3 dX1_improveAll_67 rfl rfl ?_
                refine at_iload_n (pc := 68) C 4 dX1_improveAll_68 rfl rfl ?_
                refine at_aload_n (pc := 69) C 1 dX1_improveAll_69 rfl rfl ?_
                refine at_getr (pc := 70) C 4 fw_1_21 hk0 rfl (Nat.le_of_ble_eq_true rfl) rfl rfl dX1_improveAll_70 ?_
                refine at_iload (pc := 73) C 0 dX1_improveAll_73 rfl ?_
                refine at_iaload (pc := 75) C (kf1_3 hk0) b12 dX1_improveAll_75 ?_
                obtain ⟨q14, eq14, hF⟩ := bind_some' hF
                refine at_callV (pc := 76) (ci := 1) C (c_X1_improve l g N v0 v2 v3 (σ.1 (v0 + 4) (ja (jm v2 12) v3)) σ q14 hk0 h2 h3 (ok (v0 + 4) (ja (jm v2 12) v3)) ok eq14) kv_X1_improve w972 hk0 rfl rfl rfl rfl (Nat.le_of_ble_eq_true rfl) ⟨rfl, rfl, (Nat.le_of_ble_eq_true rfl), (Nat.le_of_ble_eq_true rfl)⟩ dX1_improveAll_76 (fun tq14 okq14 => ?_)
                refine at_ior (pc := 79) C dX1_improveAll_79 ?_
                refine at_istore_n (pc := 80) (lv' := [(1, vi (jor v1 q14.1)), (4, vi (ja (jm v2 12) v3)), (0, vr g v0), (2, vi v2), (3, vi v3)]) C dX1_improveAll_80 rfl (Nat.le_of_ble_eq_true rfl) rfl ?_
                refine at_sub (lv' := [(0, vr g v0), (1, vi (jor v1 q14.1)), (2, vi v2), (3, vi v3), (4, vi (ja (jm v2 12) v3))]) [2, 0, 3, 4, 1] rfl ?_
                exact J81 (jor v1 q14.1) v3 (ja (jm v2 12) v3) q14.2 (jor_B h1 tq14) h3 (ja_R (jm v2 12) v3) okq14 hF
      refine at_sub (lv' := [(0, vr g v0), (1, vi v1), (2, vi v2), (3, vi 0)]) [1, 2, 3, 0] rfl ?_
      exact L14 v1 v2 0 σ h1 h2 (isB.r (Or.inl rfl)) ok hF
  refine at_sub (lv' := [(0, vr g v0), (1, vi 0), (2, vi 0)]) [2, 1, 0] rfl ?_
  exact L4 v0 0 0 σ hk0 (Or.inl rfl) (isB.r (Or.inl rfl)) ok hF
abbrev rm_X1_measure : Room := { frames := 3, cells := 0, slots := 0, locals := 72 }
def F_X1_measure_B56 (N : Nat) (nx56 : (Int × Int × Sto) → Option (Sto)) (v0 : Nat) (v1 : Int) (v2 : Int) (σ : Sto) : Option (Sto) :=
  if (σ.1 v0 11) < v2 then (some σ) else (if v1 = 0 then (some σ) else ((F_X1_improveAll N v0 σ).bind (fun q3 => nx56 (q3.1, (ja v2 1), q3.2))))
def F_X1_measure_J52 (N : Nat)  (v0 : Nat) (σ : Sto) : Option (Sto) :=
  loopK (fun q nx56 => F_X1_measure_B56 N  nx56 v0 q.1 q.2.1 q.2.2) N (1, 0, σ)
def F_X1_measure_J45 (N : Nat) (nx2 : (Int × Sto) → Option (Sto)) (v0 : Nat) (v1 : Int) (t1 : Int) (t2 : Int) (σ : Sto) : Option (Sto) :=
  inb t1 12 (nx2 ((ja v1 1), (upI σ (v0 + 7) t1 t2)))
def F_X1_measure_J44 (N : Nat) (nx2 : (Int × Sto) → Option (Sto)) (v0 : Nat) (v1 : Int) (t1 : Int) (σ : Sto) : Option (Sto) :=
  F_X1_measure_J45 N nx2 v0 v1 t1 0 σ
def F_X1_measure_B2 (N : Nat) (nx2 : (Int × Sto) → Option (Sto)) (v0 : Nat) (v1 : Int) (σ : Sto) : Option (Sto) :=
  if (σ.1 v0 11) ≤ v1 then (F_X1_measure_J52 N  v0 σ) else (inb v1 12 (if ((upI σ (v0 + 6) v1 0).1 (v0 + 1) v1) ≤ 0 then (F_X1_measure_J44 N nx2 v0 v1 v1 (upI σ (v0 + 6) v1 0)) else (if ((upI σ (v0 + 6) v1 0).1 (v0 + 2) v1) ≤ 0 then (F_X1_measure_J44 N nx2 v0 v1 v1 (upI σ (v0 + 6) v1 0)) else (F_X1_measure_J45 N nx2 v0 v1 v1 1 (upI σ (v0 + 6) v1 0)))))
def F_X1_measure (N : Nat) (v0 : Nat) (σ : Sto) : Option (Sto) :=
  loopK (fun q nx2 => F_X1_measure_B2 N  nx2 v0 q.1 q.2) N (0, σ)
set_option maxHeartbeats 4000000 in
set_option maxRecDepth 100000 in
theorem c_X1_measure (l : Launch) (g : Geo) (N : Nat) (v0 : Nat) (σ : Sto) (res : Sto) (hk0 : knd v0 = (11, 14)) (ok : OK σ) (hF : F_X1_measure N v0 σ = some res) : MtV l g yX1_measure cX1_measure 3 none rm_X1_measure [vr g v0] σ res := by
  intro sz
  refine Met.ofAt (own := RX1) (QQ := fun z => QV g z res) (by decide +kernel) (Nat.le_of_ble_eq_true rfl) rfl ?_
  intro p e s m args below meth c C hr hlk
  show At p l e rm_X1_measure s m args below meth c 0 0 g 3 (MQ below (QV g s.heap.size res) args s 0 0 (AA g s.heap.size)) 0 [(0, vr g v0)] [] σ
  unfold F_X1_measure at hF
  refine at_iconst (pc := 0) C dX1_measure_0 ?_
  refine at_istore_n (pc := 1) (lv' := [(1, vi 0), (0, vr g v0)]) C dX1_measure_1 rfl (Nat.le_of_ble_eq_true rfl) rfl ?_
  have L2 : ∀ (v0 : Nat) (v1 : Int) (σ : Sto), knd v0 = (11, 14) → inR v1 → OK σ → loopK (fun q nx2 => F_X1_measure_B2 N  nx2 v0 q.1 q.2) N (v1, σ) = some res → At p l e rm_X1_measure s m args below meth c 0 0 g 3 (MQ below (QV g s.heap.size res) args s 0 0 (AA g s.heap.size)) 2 [(0, vr g v0), (1, vi v1)] [] σ := by
    intro v0 v1 σ hk0 h1 ok hF
    refine loopK_ind (res := res) (P := fun (q : Int × Sto) => inR q.1 → OK q.2 → At p l e rm_X1_measure s m args below meth c 0 0 g 3 (MQ below (QV g s.heap.size res) args s 0 0 (AA g s.heap.size)) 2 [(0, vr g v0), (1, vi q.1)] [] q.2) ?_ N _ hF h1 ok
    intro nx2 q ih2 hF
    obtain ⟨v1, σ⟩ := q
    intro h1 ok
    have hF : F_X1_measure_B2 N  nx2 v0 v1 σ = some res := hF
    unfold F_X1_measure_B2 at hF
    have J52 : ∀ (v0 : Nat) (σ : Sto), knd v0 = (11, 14) → OK σ → F_X1_measure_J52 N  v0 σ = some res → At p l e rm_X1_measure s m args below meth c 0 0 g 3 (MQ below (QV g s.heap.size res) args s 0 0 (AA g s.heap.size)) 52 [(0, vr g v0)] [] σ := by
      intro v0 σ hk0 ok hF
      unfold F_X1_measure_J52 at hF
      refine at_iconst (pc := 52) C dX1_measure_52 ?_
      refine at_istore_n (pc := 53) (lv' := [(1, vi 1), (0, vr g v0)]) C dX1_measure_53 rfl (Nat.le_of_ble_eq_true rfl) rfl ?_
      refine at_iconst (pc := 54) C dX1_measure_54 ?_
      refine at_istore_n (pc := 55) (lv' := [(2, vi 0), (1, vi 1), (0, vr g v0)]) C dX1_measure_55 rfl (Nat.le_of_ble_eq_true rfl) rfl ?_
      have L56 : ∀ (v0 : Nat) (v1 : Int) (v2 : Int) (σ : Sto), knd v0 = (11, 14) → isB v1 → inR v2 → OK σ → loopK (fun q nx56 => F_X1_measure_B56 N  nx56 v0 q.1 q.2.1 q.2.2) N (v1, v2, σ) = some res → At p l e rm_X1_measure s m args below meth c 0 0 g 3 (MQ below (QV g s.heap.size res) args s 0 0 (AA g s.heap.size)) 56 [(0, vr g v0), (1, vi v1), (2, vi v2)] [] σ := by
        intro v0 v1 v2 σ hk0 h1 h2 ok hF
        refine loopK_ind (res := res) (P := fun (q : Int × Int × Sto) => isB q.1 → inR q.2.1 → OK q.2.2 → At p l e rm_X1_measure s m args below meth c 0 0 g 3 (MQ below (QV g s.heap.size res) args s 0 0 (AA g s.heap.size)) 56 [(0, vr g v0), (1, vi q.1), (2, vi q.2.1)] [] q.2.2) ?_ N _ hF h1 h2 ok
        intro nx56 q ih56 hF
        obtain ⟨v1, v2, σ⟩ := q
        intro h1 h2 ok
        have hF : F_X1_measure_B56 N  nx56 v0 v1 v2 σ = some res := hF
        unfold F_X1_measure_B56 at hF
        refine at_iload_n (pc := 56) C 2 dX1_measure_56 rfl rfl ?_
        refine at_aload_n (pc := 57) C 0 dX1_measure_57 rfl rfl ?_
        refine at_geti (pc := 58) (jz := 11) C fw_1_46 hk0 rfl (Nat.le_of_ble_eq_true rfl) rfl rfl dX1_measure_58 ?_
        refine at_icmp_gt (pc := 61) (tgt := 79) C h2 (ok v0 11) dX1_measure_61 rfl (fun c1 => ?_) (fun c1 => ?_)
        · have hF := (if_pos c1).symm.trans hF
          obtain rfl := Option.some.inj hF
          exact at_vret (pc := 79) C hr hlk ok dX1_measure_79
        · have hF := (if_neg c1).symm.trans hF
          refine at_iload_n (pc := 64) C 1 dX1_measure_64 rfl rfl ?_
          refine at_if_eq (pc := 65) (tgt := 79) C (isB.r h1) dX1_measure_65 rfl (fun c2 => ?_) (fun c2 => ?_)
          · have hF := (if_pos c2).symm.trans hF
            obtain rfl := Option.some.inj hF
            exact at_vret (pc := 79) C hr hlk ok dX1_measure_79
          · have hF := (if_neg c2).symm.trans hF
            refine at_aload_n (pc := 68) C 0 dX1_measure_68 rfl rfl ?_
            obtain ⟨q3, eq3, hF⟩ := bind_some' hF
            refine at_callV (pc := 69) (ci := 1) C (c_X1_improveAll l g N v0 σ q3 hk0 ok eq3) kv_X1_improveAll w968 hk0 rfl rfl rfl rfl (Nat.le_of_ble_eq_true rfl) ⟨rfl, rfl, (Nat.le_of_ble_eq_true rfl), (Nat.le_of_ble_eq_true rfl)⟩ dX1_measure_69 (fun tq3 okq3 => ?_)
            refine at_istore_n (pc := 72) (lv' := [(1, vi q3.1), (0, vr g v0), (2, vi v2)]) C dX1_measure_72 rfl (Nat.le_of_ble_eq_true rfl) rfl ?_
            refine at_iinc (pc := 73) (lv' := [(2, vi (ja v2 1)), (1, vi q3.1), (0, vr g v0)]) C 2 dX1_measure_73 rfl (Nat.le_of_ble_eq_true rfl) rfl ?_
            refine at_goto (pc := 76) (tgt := 56) C dX1_measure_76 rfl ?_
            refine at_sub (lv' := [(0, vr g v0), (1, vi q3.1), (2, vi (ja v2 1))]) [2, 1, 0] rfl ?_
            exact ih56 _ hF tq3 (ja_R v2 1) okq3
      refine at_sub (lv' := [(0, vr g v0), (1, vi 1), (2, vi 0)]) [2, 1, 0] rfl ?_
      exact L56 v0 1 0 σ hk0 (Or.inr rfl) (isB.r (Or.inl rfl)) ok hF
    refine at_iload_n (pc := 2) C 1 dX1_measure_2 rfl rfl ?_
    refine at_aload_n (pc := 3) C 0 dX1_measure_3 rfl rfl ?_
    refine at_geti (pc := 4) (jz := 11) C fw_1_46 hk0 rfl (Nat.le_of_ble_eq_true rfl) rfl rfl dX1_measure_4 ?_
    refine at_icmp_ge (pc := 7) (tgt := 52) C h1 (ok v0 11) dX1_measure_7 rfl (fun c4 => ?_) (fun c4 => ?_)
    · have hF := (if_pos c4).symm.trans hF
      refine at_sub (lv' := [(0, vr g v0)]) [0] rfl ?_
      exact J52 v0 σ hk0 ok hF
    · have hF := (if_neg c4).symm.trans hF
      have J45 : ∀ (v1 : Int) (t1 : Int) (t2 : Int) (σ : Sto), inR v1 → inR t1 → isB t2 → OK σ → F_X1_measure_J45 N nx2 v0 v1 t1 t2 σ = some res → At p l e rm_X1_measure s m args below meth c 0 0 g 3 (MQ below (QV g s.heap.size res) args s 0 0 (AA g s.heap.size)) 45 [(0, vr g v0), (1, vi v1)] [vi t2, vi t1, vr g (v0 + 7)] σ := by
        intro v1 t1 t2 σ h1 ht1 ht2 ok hF
        unfold F_X1_measure_J45 at hF
        obtain ⟨b5, hF⟩ := inb_some hF
        refine at_iastore (pc := 45) C (kf1_6 hk0) b5 dX1_measure_45 ?_
        refine at_iinc (pc := 46) (lv' := [(1, vi (ja v1 1)), (0, vr g v0)]) C 1 dX1_measure_46 rfl (Nat.le_of_ble_eq_true rfl) rfl ?_
        refine at_goto (pc := 49) (tgt := 2) C dX1_measure_49 rfl ?_
        refine at_sub (lv' := [(0, vr g v0), (1, vi (ja v1 1))]) [1, 0] rfl ?_
        exact ih2 _ hF (ja_R v1 1) (OK_up (k := (v0 + 7)) (j := t1) ok (isB.r ht2))
      have J44 : ∀ (v1 : Int) (t1 : Int) (σ : Sto), inR v1 → inR t1 → OK σ → F_X1_measure_J44 N nx2 v0 v1 t1 σ = some res → At p l e rm_X1_measure s m args below meth c 0 0 g 3 (MQ below (QV g s.heap.size res) args s 0 0 (AA g s.heap.size)) 44 [(0, vr g v0), (1, vi v1)] [vi t1, vr g (v0 + 7)] σ := by
        intro v1 t1 σ h1 ht1 ok hF
        unfold F_X1_measure_J44 at hF
        refine at_iconst (pc := 44) C dX1_measure_44 ?_
        exact J45 v1 t1 0 σ h1 ht1 (Or.inl rfl) ok hF
      refine at_aload_n (pc := 10) C 0 dX1_measure_10 rfl rfl ?_
      refine at_getr (pc := 11) C 6 fw_1_27 hk0 rfl (Nat.le_of_ble_eq_true rfl) rfl rfl dX1_measure_11 ?_
      refine at_iload_n (pc := 14) C 1 dX1_measure_14 rfl rfl ?_
      refine at_iconst (pc := 15) C dX1_measure_15 ?_
      obtain ⟨b6, hF⟩ := inb_some hF
      refine at_iastore (pc := 16) C (kf1_5 hk0) b6 dX1_measure_16 ?_
      refine at_aload_n (pc := 17) C 0 dX1_measure_17 rfl rfl ?_
      refine at_getr (pc := 18) C 7 fw_1_30 hk0 rfl (Nat.le_of_ble_eq_true rfl) rfl rfl dX1_measure_18 ?_
      refine at_iload_n (pc := 21) C 1 dX1_measure_21 rfl rfl ?_
      refine at_aload_n (pc := 22) C 0 dX1_measure_22 rfl rfl ?_
      refine at_getr (pc := 23) C 1 fw_1_9 hk0 rfl (Nat.le_of_ble_eq_true rfl) rfl rfl dX1_measure_23 ?_
      refine at_iload_n (pc := 26) C 1 dX1_measure_26 rfl rfl ?_
      refine at_iaload (pc := 27) C (kf1_0 hk0) b6 dX1_measure_27 ?_
      refine at_if_le (pc := 28) (tgt := 44) C ((OK_up (k := (v0 + 6)) (j := v1) ok (isB.r (Or.inl rfl))) (v0 + 1) v1) dX1_measure_28 rfl (fun c7 => ?_) (fun c7 => ?_)
      · have hF := (if_pos c7).symm.trans hF
        exact J44 v1 v1 (upI σ (v0 + 6) v1 0) h1 h1 (OK_up (k := (v0 + 6)) (j := v1) ok (isB.r (Or.inl rfl))) hF
      · have hF := (if_neg c7).symm.trans hF
        refine at_aload_n (pc := 31) C 0 dX1_measure_31 rfl rfl ?_
        refine at_getr (pc := 32) C 2 fw_1_15 hk0 rfl (Nat.le_of_ble_eq_true rfl) rfl rfl dX1_measure_32 ?_
        refine at_iload_n (pc := 35) C 1 dX1_measure_35 rfl rfl ?_
        refine at_iaload (pc := 36) C (kf1_1 hk0) b6 dX1_measure_36 ?_
        refine at_if_le (pc := 37) (tgt := 44) C ((OK_up (k := (v0 + 6)) (j := v1) ok (isB.r (Or.inl rfl))) (v0 + 2) v1) dX1_measure_37 rfl (fun c8 => ?_) (fun c8 => ?_)
        · have hF := (if_pos c8).symm.trans hF
          exact J44 v1 v1 (upI σ (v0 + 6) v1 0) h1 h1 (OK_up (k := (v0 + 6)) (j := v1) ok (isB.r (Or.inl rfl))) hF
        · have hF := (if_neg c8).symm.trans hF
          refine at_iconst (pc := 40) C dX1_measure_40 ?_
          refine at_goto (pc := 41) (tgt := 45) C dX1_measure_41 rfl ?_
          exact J45 v1 v1 1 (upI σ (v0 + 6) v1 0) h1 h1 (Or.inr rfl) (OK_up (k := (v0 + 6)) (j := v1) ok (isB.r (Or.inl rfl))) hF
  refine at_sub (lv' := [(0, vr g v0), (1, vi 0)]) [1, 0] rfl ?_
  exact L2 v0 0 σ hk0 (isB.r (Or.inl rfl)) ok hF
abbrev rm_X1_passable : Room := { frames := 0, cells := 0, slots := 0, locals := 0 }
def F_X1_passable_J71 (N : Nat)   (σ : Sto) : Option (Int) :=
  some 0
def F_X1_passable_J39 (N : Nat)  (v0 : Nat) (v1 : Int) (v2 : Int) (σ : Sto) : Option (Int) :=
  inb v1 12 (if (σ.1 (v0 + 1) v1) ≤ 0 then (F_X1_passable_J71 N   σ) else (inb v2 12 (if 0 ≤ (σ.1 (v0 + 1) v2) then (F_X1_passable_J71 N   σ) else (inb (ja (jm v2 12) v1) 144 (some (σ.1 (v0 + 5) (ja (jm v2 12) v1)))))))
def F_X1_passable (N : Nat) (v0 : Nat) (v1 : Int) (v2 : Int) (σ : Sto) : Option (Int) :=
  inb v1 12 (if 0 ≤ (σ.1 (v0 + 1) v1) then (F_X1_passable_J39 N  v0 v1 v2 σ) else (inb v2 12 (if (σ.1 (v0 + 1) v2) ≤ 0 then (F_X1_passable_J39 N  v0 v1 v2 σ) else (inb (ja (jm v1 12) v2) 144 (some (js (σ.1 (v0 + 3) (ja (jm v1 12) v2)) (σ.1 (v0 + 5) (ja (jm v1 12) v2))))))))
set_option maxHeartbeats 4000000 in
set_option maxRecDepth 100000 in
theorem c_X1_passable (l : Launch) (g : Geo) (N : Nat) (v0 : Nat) (v1 : Int) (v2 : Int) (σ : Sto) (res : Int) (hk0 : knd v0 = (11, 14)) (h1 : inR v1) (h2 : inR v2) (ok : OK σ) (hF : F_X1_passable N v0 v1 v2 σ = some res) : MtI l g yX1_passable cX1_passable 4 (some .int) rm_X1_passable [vr g v0, vi v1, vi v2] σ res σ inR := by
  intro sz
  refine Met.ofAt (own := RX1) (QQ := fun z => QI g z res σ inR) (by decide +kernel) (Nat.le_of_ble_eq_true rfl) rfl ?_
  intro p e s m args below meth c C hr hlk
  show At p l e rm_X1_passable s m args below meth c 0 0 g 4 (MQ below (QI g s.heap.size res σ inR) args s 0 0 (AA g s.heap.size)) 0 [(0, vr g v0), (1, vi v1), (2, vi v2)] [] σ
  unfold F_X1_passable at hF
  have J39 : ∀ (v0 : Nat) (v1 : Int) (v2 : Int), knd v0 = (11, 14) → inR v1 → inR v2 → F_X1_passable_J39 N  v0 v1 v2 σ = some res → At p l e rm_X1_passable s m args below meth c 0 0 g 4 (MQ below (QI g s.heap.size res σ inR) args s 0 0 (AA g s.heap.size)) 39 [(0, vr g v0), (1, vi v1), (2, vi v2)] [] σ := by
    intro v0 v1 v2 hk0 h1 h2 hF
    unfold F_X1_passable_J39 at hF
    have J71 : F_X1_passable_J71 N   σ = some res → At p l e rm_X1_passable s m args below meth c 0 0 g 4 (MQ below (QI g s.heap.size res σ inR) args s 0 0 (AA g s.heap.size)) 71 [] [] σ := by
      intro   hF
      unfold F_X1_passable_J71 at hF
      refine at_iconst (pc := 71) C dX1_passable_71 ?_
      obtain rfl := Option.some.inj hF
      exact at_iret (pc := 72) C hr hlk (isB.r (Or.inl rfl)) ok dX1_passable_72
    refine at_aload_n (pc := 39) C 0 dX1_passable_39 rfl rfl ?_
    refine at_getr (pc := 40) C 1 fw_1_9 hk0 rfl (Nat.le_of_ble_eq_true rfl) rfl rfl dX1_passable_40 ?_
    refine at_iload_n (pc := 43) C 1 dX1_passable_43 rfl rfl ?_
    obtain ⟨b1, hF⟩ := inb_some hF
    refine at_iaload (pc := 44) C (kf1_0 hk0) b1 dX1_passable_44 ?_
    refine at_if_le (pc := 45) (tgt := 71) C (ok (v0 + 1) v1) dX1_passable_45 rfl (fun c2 => ?_) (fun c2 => ?_)
    · have hF := (if_pos c2).symm.trans hF
      refine at_sub (lv' := []) [] rfl ?_
      exact J71  hF
    · have hF := (if_neg c2).symm.trans hF
      refine at_aload_n (pc := 48) C 0 dX1_passable_48 rfl rfl ?_
      refine at_getr (pc := 49) C 1 fw_1_9 hk0 rfl (Nat.le_of_ble_eq_true rfl) rfl rfl dX1_passable_49 ?_
      refine at_iload_n (pc := 52) C 2 dX1_passable_52 rfl rfl ?_
      obtain ⟨b3, hF⟩ := inb_some hF
      refine at_iaload (pc := 53) C (kf1_0 hk0) b3 dX1_passable_53 ?_
      refine at_if_ge (pc := 54) (tgt := 71) C (ok (v0 + 1) v2) dX1_passable_54 rfl (fun c4 => ?_) (fun c4 => ?_)
      · have hF := (if_pos c4).symm.trans hF
        refine at_sub (lv' := []) [] rfl ?_
        exact J71  hF
      · have hF := (if_neg c4).symm.trans hF
        refine at_aload_n (pc := 57) C 0 dX1_passable_57 rfl rfl ?_
        refine at_getr (pc := 58) C 5 fw_1_24 hk0 rfl (Nat.le_of_ble_eq_true rfl) rfl rfl dX1_passable_58 ?_
        refine at_iload_n (pc := 61) C 2 dX1_passable_61 rfl rfl ?_
        refine at_bipush (pc := 62) C dX1_passable_62 (by decide) ?_
        refine at_imul (pc := 64) C dX1_passable_64 ?_
        refine at_iload_n (pc := 65) C 1 dX1_passable_65 rfl rfl ?_
        refine at_iadd (pc := 66) C dX1_passable_66 ?_
        obtain ⟨b5, hF⟩ := inb_some hF
        refine at_iaload (pc := 67) C (kf1_4 hk0) b5 dX1_passable_67 ?_
        refine at_goto (pc := 68) (tgt := 72) C dX1_passable_68 rfl ?_
        obtain rfl := Option.some.inj hF
        exact at_iret (pc := 72) C hr hlk (ok (v0 + 5) (ja (jm v2 12) v1)) ok dX1_passable_72
  refine at_aload_n (pc := 0) C 0 dX1_passable_0 rfl rfl ?_
  refine at_getr (pc := 1) C 1 fw_1_9 hk0 rfl (Nat.le_of_ble_eq_true rfl) rfl rfl dX1_passable_1 ?_
  refine at_iload_n (pc := 4) C 1 dX1_passable_4 rfl rfl ?_
  obtain ⟨b6, hF⟩ := inb_some hF
  refine at_iaload (pc := 5) C (kf1_0 hk0) b6 dX1_passable_5 ?_
  refine at_if_ge (pc := 6) (tgt := 39) C (ok (v0 + 1) v1) dX1_passable_6 rfl (fun c7 => ?_) (fun c7 => ?_)
  · have hF := (if_pos c7).symm.trans hF
    exact J39 v0 v1 v2 hk0 h1 h2 hF
  · have hF := (if_neg c7).symm.trans hF
    refine at_aload_n (pc := 9) C 0 dX1_passable_9 rfl rfl ?_
    refine at_getr (pc := 10) C 1 fw_1_9 hk0 rfl (Nat.le_of_ble_eq_true rfl) rfl rfl dX1_passable_10 ?_
    refine at_iload_n (pc := 13) C 2 dX1_passable_13 rfl rfl ?_
    obtain ⟨b8, hF⟩ := inb_some hF
    refine at_iaload (pc := 14) C (kf1_0 hk0) b8 dX1_passable_14 ?_
    refine at_if_le (pc := 15) (tgt := 39) C (ok (v0 + 1) v2) dX1_passable_15 rfl (fun c9 => ?_) (fun c9 => ?_)
    · have hF := (if_pos c9).symm.trans hF
      exact J39 v0 v1 v2 hk0 h1 h2 hF
    · have hF := (if_neg c9).symm.trans hF
      refine at_iload_n (pc := 18) C 1 dX1_passable_18 rfl rfl ?_
      refine at_bipush (pc := 19) C dX1_passable_19 (by decide) ?_
      refine at_imul (pc := 21) C dX1_passable_21 ?_
      refine at_iload_n (pc := 22) C 2 dX1_passable_22 rfl rfl ?_
      refine at_iadd (pc := 23) C dX1_passable_23 ?_
      refine at_istore_n (pc := 24) (lv' := [(3, vi (ja (jm v1 12) v2)), (0, vr g v0), (1, vi v1), (2, vi v2)]) C dX1_passable_24 rfl (Nat.le_of_ble_eq_true rfl) rfl ?_
      refine at_aload_n (pc := 25) C 1 dX1_passable_25 rfl rfl ?_
      refine at_getr (pc := 26) C 3 fw_1_18 hk0 rfl (Nat.le_of_ble_eq_true rfl) rfl rfl dX1_passable_26 ?_
      refine at_iload_n (pc := 29) C 0 dX1_passable_29 rfl rfl ?_
      obtain ⟨b10, hF⟩ := inb_some hF
      refine at_iaload (pc := 30) C (kf1_2 hk0) b10 dX1_passable_30 ?_
      refine at_aload_n (pc := 31) C 1 dX1_passable_31 rfl rfl ?_
      refine at_getr (pc := 32) C 5 fw_1_24 hk0 rfl (Nat.le_of_ble_eq_true rfl) rfl rfl dX1_passable_32 ?_
      refine at_iload_n (pc := 35) C 0 dX1_passable_35 rfl rfl ?_
      refine at_iaload (pc := 36) C (kf1_4 hk0) b10 dX1_passable_36 ?_
      refine at_isub (pc := 37) C dX1_passable_37 ?_
      obtain rfl := Option.some.inj hF
      exact at_iret (pc := 38) C hr hlk (js_R (σ.1 (v0 + 3) (ja (jm v1 12) v2)) (σ.1 (v0 + 5) (ja (jm v1 12) v2))) ok dX1_passable_38
abbrev rm_X1_followerOf : Room := { frames := 1, cells := 0, slots := 0, locals := 23 }
def F_X1_followerOf_J103 (N : Nat) (nx2 : (Int) → Option (Int)) (v0 : Nat) (v1 : Int) (v2 : Int) (σ : Sto) : Option (Int) :=
  nx2 (ja v2 1)
def F_X1_followerOf_J85 (N : Nat) (nx2 : (Int) → Option (Int)) (v0 : Nat) (v1 : Int) (v2 : Int) (t0 : Int) (σ : Sto) : Option (Int) :=
  if t0 = 0 then (F_X1_followerOf_J103 N nx2 v0 v1 v2 σ) else ((F_X1_passable N v0 v1 v2 σ).bind (fun q3 => if q3 ≤ 0 then (F_X1_followerOf_J103 N nx2 v0 v1 v2 σ) else (some v2)))
def F_X1_followerOf_J84 (N : Nat) (nx2 : (Int) → Option (Int)) (v0 : Nat) (v1 : Int) (v2 : Int) (σ : Sto) : Option (Int) :=
  F_X1_followerOf_J85 N nx2 v0 v1 v2 0 σ
def F_X1_followerOf_J45 (N : Nat) (nx2 : (Int) → Option (Int)) (v0 : Nat) (v1 : Int) (v2 : Int) (t0 : Int) (σ : Sto) : Option (Int) :=
  inb v2 12 (inb v1 12 (if (σ.1 (v0 + 7) v2) = (js (σ.1 (v0 + 7) v1) 1) then (if (ja (σ.1 (v0 + 6) v2) t0) = (σ.1 (v0 + 6) v1) then (F_X1_followerOf_J85 N nx2 v0 v1 v2 1 σ) else (F_X1_followerOf_J84 N nx2 v0 v1 v2 σ)) else (F_X1_followerOf_J84 N nx2 v0 v1 v2 σ)))
def F_X1_followerOf_B2 (N : Nat) (nx2 : (Int) → Option (Int)) (v0 : Nat) (v1 : Int) (v2 : Int) (σ : Sto) : Option (Int) :=
  if (σ.1 v0 11) ≤ v2 then (some (-1)) else (inb v1 12 (if 0 ≤ (σ.1 (v0 + 1) v1) then (inb (ja (jm v2 12) v1) 144 (F_X1_followerOf_J45 N nx2 v0 v1 v2 (jneg (σ.1 (v0 + 4) (ja (jm v2 12) v1))) σ)) else (inb (ja (jm v1 12) v2) 144 (F_X1_followerOf_J45 N nx2 v0 v1 v2 (σ.1 (v0 + 4) (ja (jm v1 12) v2)) σ))))
def F_X1_followerOf (N : Nat) (v0 : Nat) (v1 : Int) (σ : Sto) : Option (Int) :=
  loopK (fun q nx2 => F_X1_followerOf_B2 N  nx2 v0 v1 q σ) N 0
set_option maxHeartbeats 4000000 in
set_option maxRecDepth 100000 in
theorem c_X1_followerOf (l : Launch) (g : Geo) (N : Nat) (v0 : Nat) (v1 : Int) (σ : Sto) (res : Int) (hk0 : knd v0 = (11, 14)) (h1 : inR v1) (ok : OK σ) (hF : F_X1_followerOf N v0 v1 σ = some res) : MtI l g yX1_followerOf cX1_followerOf 5 (some .int) rm_X1_followerOf [vr g v0, vi v1] σ res σ inR := by
  intro sz
  refine Met.ofAt (own := RX1) (QQ := fun z => QI g z res σ inR) (by decide +kernel) (Nat.le_of_ble_eq_true rfl) rfl ?_
  intro p e s m args below meth c C hr hlk
  show At p l e rm_X1_followerOf s m args below meth c 0 0 g 5 (MQ below (QI g s.heap.size res σ inR) args s 0 0 (AA g s.heap.size)) 0 [(0, vr g v0), (1, vi v1)] [] σ
  unfold F_X1_followerOf at hF
  refine at_iconst (pc := 0) C dX1_followerOf_0 ?_
  refine at_istore_n (pc := 1) (lv' := [(2, vi 0), (0, vr g v0), (1, vi v1)]) C dX1_followerOf_1 rfl (Nat.le_of_ble_eq_true rfl) rfl ?_
  have L2 : ∀ (v0 : Nat) (v1 : Int) (v2 : Int), knd v0 = (11, 14) → inR v1 → inR v2 → loopK (fun q nx2 => F_X1_followerOf_B2 N  nx2 v0 v1 q σ) N v2 = some res → At p l e rm_X1_followerOf s m args below meth c 0 0 g 5 (MQ below (QI g s.heap.size res σ inR) args s 0 0 (AA g s.heap.size)) 2 [(0, vr g v0), (1, vi v1), (2, vi v2)] [] σ := by
    intro v0 v1 v2 hk0 h1 h2 hF
    refine loopK_ind (res := res) (P := fun (q : Int) => inR q → At p l e rm_X1_followerOf s m args below meth c 0 0 g 5 (MQ below (QI g s.heap.size res σ inR) args s 0 0 (AA g s.heap.size)) 2 [(0, vr g v0), (1, vi v1), (2, vi q)] [] σ) ?_ N _ hF h2
    intro nx2 v2 ih2 hF h2
    have hF : F_X1_followerOf_B2 N  nx2 v0 v1 v2 σ = some res := hF
    unfold F_X1_followerOf_B2 at hF
    refine at_iload_n (pc := 2) C 2 dX1_followerOf_2 rfl rfl ?_
    refine at_aload_n (pc := 3) C 0 dX1_followerOf_3 rfl rfl ?_
    refine at_geti (pc := 4) (jz := 11) C fw_1_46 hk0 rfl (Nat.le_of_ble_eq_true rfl) rfl rfl dX1_followerOf_4 ?_
    refine at_icmp_ge (pc := 7) (tgt := 109) C h2 (ok v0 11) dX1_followerOf_7 rfl (fun c1 => ?_) (fun c1 => ?_)
    · have hF := (if_pos c1).symm.trans hF
      refine at_iconst (pc := 109) C dX1_followerOf_109 ?_
      obtain rfl := Option.some.inj hF
      exact at_iret (pc := 110) C hr hlk (show inR (-1) from ⟨by decide, by decide⟩) ok dX1_followerOf_110
    · have hF := (if_neg c1).symm.trans hF
      have J45 : ∀ (v2 : Int) (t0 : Int), inR v2 → inR t0 → F_X1_followerOf_J45 N nx2 v0 v1 v2 t0 σ = some res → At p l e rm_X1_followerOf s m args below meth c 0 0 g 5 (MQ below (QI g s.heap.size res σ inR) args s 0 0 (AA g s.heap.size)) 45 [(0, vr g v0), (1, vi v1), (2, vi v2)] [vi t0] σ := by
        intro v2 t0 h2 ht0 hF
        unfold F_X1_followerOf_J45 at hF
        have J85 : ∀ (v2 : Int) (t0 : Int), inR v2 → isB t0 → F_X1_followerOf_J85 N nx2 v0 v1 v2 t0 σ = some res → At p l e rm_X1_followerOf s m args below meth c 0 0 g 5 (MQ below (QI g s.heap.size res σ inR) args s 0 0 (AA g s.heap.size)) 85 [(0, vr g v0), (1, vi v1), (2, vi v2)] [vi t0] σ := by
          intro v2 t0 h2 ht0 hF
          unfold F_X1_followerOf_J85 at hF
          have J103 : ∀ (v2 : Int), inR v2 → F_X1_followerOf_J103 N nx2 v0 v1 v2 σ = some res → At p l e rm_X1_followerOf s m args below meth c 0 0 g 5 (MQ below (QI g s.heap.size res σ inR) args s 0 0 (AA g s.heap.size)) 103 [(0, vr g v0), (1, vi v1), (2, vi v2)] [] σ := by
            intro v2 h2 hF
            unfold F_X1_followerOf_J103 at hF
            refine at_iinc (pc := 103) (lv' := [(2, vi (ja v2 1)), (0, vr g v0), (1, vi v1)]) C 2 dX1_followerOf_103 rfl (Nat.le_of_ble_eq_true rfl) rfl ?_
            refine at_goto (pc := 106) (tgt := 2) C dX1_followerOf_106 rfl ?_
            refine at_sub (lv' := [(0, vr g v0), (1, vi v1), (2, vi (ja v2 1))]) [1, 2, 0] rfl ?_
            exact ih2 _ hF (ja_R v2 1)
          refine at_istore (pc := 85) (lv' := [(4, vi t0), (0, vr g v0), (1, vi v1), (2, vi v2)]) C dX1_followerOf_85 (Nat.le_of_ble_eq_true rfl) rfl ?_
          refine at_iload (pc := 87) C 0 dX1_followerOf_87 rfl ?_
          refine at_if_eq (pc := 89) (tgt := 103) C (isB.r ht0) dX1_followerOf_89 rfl (fun c2 => ?_) (fun c2 => ?_)
          · have hF := (if_pos c2).symm.trans hF
            refine at_sub (lv' := [(0, vr g v0), (1, vi v1), (2, vi v2)]) [1, 2, 3] rfl ?_
            exact J103 v2 h2 hF
          · have hF := (if_neg c2).symm.trans hF
            refine at_aload_n (pc := 92) C 1 dX1_followerOf_92 rfl rfl ?_
            refine at_iload_n (pc := 93) C 2 dX1_followerOf_93 rfl rfl ?_
            refine at_iload_n (pc := 94) C 3 dX1_followerOf_94 rfl rfl ?_
            obtain ⟨q3, eq3, hF⟩ := bind_some' hF
            refine at_callV (pc := 95) (ci := 1) C (c_X1_passable l g N v0 v1 v2 σ q3 hk0 h1 h2 ok eq3) kv_X1_passable w988 hk0 rfl rfl rfl rfl (Nat.le_of_ble_eq_true rfl) ⟨rfl, rfl, (Nat.le_of_ble_eq_true rfl), (Nat.le_of_ble_eq_true rfl)⟩ dX1_followerOf_95 (fun tq3 okq3 => ?_)
            refine at_if_le (pc := 98) (tgt := 103) C tq3 dX1_followerOf_98 rfl (fun c4 => ?_) (fun c4 => ?_)
            · have hF := (if_pos c4).symm.trans hF
              refine at_sub (lv' := [(0, vr g v0), (1, vi v1), (2, vi v2)]) [1, 2, 3] rfl ?_
              exact J103 v2 h2 hF
            · have hF := (if_neg c4).symm.trans hF
              refine at_iload_n (pc := 101) C 3 dX1_followerOf_101 rfl rfl ?_
              obtain rfl := Option.some.inj hF
              exact at_iret (pc := 102) C hr hlk h2 ok dX1_followerOf_102
        have J84 : ∀ (v2 : Int), inR v2 → F_X1_followerOf_J84 N nx2 v0 v1 v2 σ = some res → At p l e rm_X1_followerOf s m args below meth c 0 0 g 5 (MQ below (QI g s.heap.size res σ inR) args s 0 0 (AA g s.heap.size)) 84 [(0, vr g v0), (1, vi v1), (2, vi v2)] [] σ := by
          intro v2 h2 hF
          unfold F_X1_followerOf_J84 at hF
          refine at_iconst (pc := 84) C dX1_followerOf_84 ?_
          exact J85 v2 0 h2 (Or.inl rfl) hF
        refine at_istore_n (pc := 45) (lv' := [(3, vi t0), (0, vr g v0), (1, vi v1), (2, vi v2)]) C dX1_followerOf_45 rfl (Nat.le_of_ble_eq_true rfl) rfl ?_
        refine at_aload_n (pc := 46) C 1 dX1_followerOf_46 rfl rfl ?_
        refine at_getr (pc := 47) C 7 fw_1_30 hk0 rfl (Nat.le_of_ble_eq_true rfl) rfl rfl dX1_followerOf_47 ?_
        refine at_iload_n (pc := 50) C 3 dX1_followerOf_50 rfl rfl ?_
        obtain ⟨b5, hF⟩ := inb_some hF
        refine at_iaload (pc := 51) C (kf1_6 hk0) b5 dX1_followerOf_51 ?_
        refine at_aload_n (pc := 52) C 1 dX1_followerOf_52 rfl rfl ?_
        refine at_getr (pc := 53) C 7 fw_1_30 hk0 rfl (Nat.le_of_ble_eq_true rfl) rfl rfl dX1_followerOf_53 ?_
        refine at_iload_n (pc := 56) C 2 dX1_followerOf_56 rfl rfl ?_
        obtain ⟨b6, hF⟩ := inb_some hF
        refine at_iaload (pc := 57) C (kf1_6 hk0) b6 dX1_followerOf_57 ?_
        refine at_iconst (pc := 58) C dX1_followerOf_58 ?_
        refine at_isub (pc := 59) C dX1_followerOf_59 ?_
        refine at_icmp_ne (pc := 60) (tgt := 84) C (ok (v0 + 7) v2) (js_R (σ.1 (v0 + 7) v1) 1) dX1_followerOf_60 rfl (fun c7 => ?_) (fun c7 => ?_)
        · have hF := (if_neg c7).symm.trans hF
          refine at_sub (lv' := [(0, vr g v0), (1, vi v1), (2, vi v2)]) [1, 2, 3] rfl ?_
          exact J84 v2 h2 hF
        · have hF := (if_pos c7).symm.trans hF
          refine at_aload_n (pc := 63) C 1 dX1_followerOf_63 rfl rfl ?_
          refine at_getr (pc := 64) C 6 fw_1_27 hk0 rfl (Nat.le_of_ble_eq_true rfl) rfl rfl dX1_followerOf_64 ?_
          refine at_iload_n (pc := 67) C 3 dX1_followerOf_67 rfl rfl ?_
          refine at_iaload (pc := 68) C (kf1_5 hk0) b5 dX1_followerOf_68 ?_
          refine at_iload_n (pc := 69) C 0 dX1_followerOf_69 rfl rfl ?_
          refine at_iadd (pc := 70) C dX1_followerOf_70 ?_
          refine at_aload_n (pc := 71) C 1 dX1_followerOf_71 rfl rfl ?_
          refine at_getr (pc := 72) C 6 fw_1_27 hk0 rfl (Nat.le_of_ble_eq_true rfl) rfl rfl dX1_followerOf_72 ?_
          refine at_iload_n (pc := 75) C 2 dX1_followerOf_75 rfl rfl ?_
          refine at_iaload (pc := 76) C (kf1_5 hk0) b6 dX1_followerOf_76 ?_
          refine at_icmp_ne (pc := 77) (tgt := 84) C (ja_R (σ.1 (v0 + 6) v2) t0) (ok (v0 + 6) v1) dX1_followerOf_77 rfl (fun c8 => ?_) (fun c8 => ?_)
          · have hF := (if_neg c8).symm.trans hF
            refine at_sub (lv' := [(0, vr g v0), (1, vi v1), (2, vi v2)]) [1, 2, 3] rfl ?_
            exact J84 v2 h2 hF
          · have hF := (if_pos c8).symm.trans hF
            refine at_iconst (pc := 80) C dX1_followerOf_80 ?_
            refine at_goto (pc := 81) (tgt := 85) C dX1_followerOf_81 rfl ?_
            refine at_sub (lv' := [(0, vr g v0), (1, vi v1), (2, vi v2)]) [1, 2, 3] rfl ?_
            exact J85 v2 1 h2 (Or.inr rfl) hF
      refine at_aload_n (pc := 10) C 0 dX1_followerOf_10 rfl rfl ?_
      refine at_getr (pc := 11) C 1 fw_1_9 hk0 rfl (Nat.le_of_ble_eq_true rfl) rfl rfl dX1_followerOf_11 ?_
      refine at_iload_n (pc := 14) C 1 dX1_followerOf_14 rfl rfl ?_
      obtain ⟨b9, hF⟩ := inb_some hF
      refine at_iaload (pc := 15) C (kf1_0 hk0) b9 dX1_followerOf_15 ?_
      refine at_if_ge (pc := 16) (tgt := 33) C (ok (v0 + 1) v1) dX1_followerOf_16 rfl (fun c10 => ?_) (fun c10 => ?_)
      · have hF := (if_pos c10).symm.trans hF
        refine at_aload_n (pc := 33) C 0 dX1_followerOf_33 rfl rfl ?_
        refine at_getr (pc := 34) C 4 fw_1_21 hk0 rfl (Nat.le_of_ble_eq_true rfl) rfl rfl dX1_followerOf_34 ?_
        refine at_iload_n (pc := 37) C 2 dX1_followerOf_37 rfl rfl ?_
        refine at_bipush (pc := 38) C dX1_followerOf_38 (by decide) ?_
        refine at_imul (pc := 40) C dX1_followerOf_40 ?_
        refine at_iload_n (pc := 41) C 1 dX1_followerOf_41 rfl rfl ?_
        refine at_iadd (pc := 42) C dX1_followerOf_42 ?_
        obtain ⟨b11, hF⟩ := inb_some hF
        refine at_iaload (pc := 43) C (kf1_3 hk0) b11 dX1_followerOf_43 ?_
        refine at_ineg (pc := 44) C dX1_followerOf_44 ?_
        exact J45 v2 (jneg (σ.1 (v0 + 4) (ja (jm v2 12) v1))) h2 (jneg_R (σ.1 (v0 + 4) (ja (jm v2 12) v1))) hF
      · have hF := (if_neg c10).symm.trans hF
        refine at_aload_n (pc := 19) C 0 dX1_followerOf_19 rfl rfl ?_
        refine at_getr (pc := 20) C 4 fw_1_21 hk0 rfl (Nat.le_of_ble_eq_true rfl) rfl rfl dX1_followerOf_20 ?_
        refine at_iload_n (pc := 23) C 1 dX1_followerOf_23 rfl rfl ?_
        refine at_bipush (pc := 24) C dX1_followerOf_24 (by decide) ?_
        refine at_imul (pc := 26) C dX1_followerOf_26 ?_
        refine at_iload_n (pc := 27) C 2 dX1_followerOf_27 rfl rfl ?_
        refine at_iadd (pc := 28) C dX1_followerOf_28 ?_
        obtain ⟨b12, hF⟩ := inb_some hF
        refine at_iaload (pc := 29) C (kf1_3 hk0) b12 dX1_followerOf_29 ?_
        refine at_goto (pc := 30) (tgt := 45) C dX1_followerOf_30 rfl ?_
        exact J45 v2 (σ.1 (v0 + 4) (ja (jm v1 12) v2)) h2 (ok (v0 + 4) (ja (jm v1 12) v2)) hF
  refine at_sub (lv' := [(0, vr g v0), (1, vi v1), (2, vi 0)]) [1, 2, 0] rfl ?_
  exact L2 v0 v1 0 hk0 h1 (isB.r (Or.inl rfl)) hF
abbrev rm_X1_findRoute : Room := { frames := 2, cells := 0, slots := 0, locals := 47 }
def F_X1_findRoute_J172 (N : Nat)   (σ : Sto) : Option (Int × Sto) :=
  some (0, σ)
def F_X1_findRoute_J140 (N : Nat)  (v0 : Nat) (σ : Sto) : Option (Int × Sto) :=
  if (σ.1 v0 9) ≤ 1 then (F_X1_findRoute_J172 N   σ) else (inb (js (σ.1 v0 9) 1) 12 (inb (σ.1 (v0 + 8) (js (σ.1 v0 9) 1)) 12 (if (σ.1 (v0 + 7) (σ.1 (v0 + 8) (js (σ.1 v0 9) 1))) = 1 then (some (1, σ)) else (F_X1_findRoute_J172 N   σ))))
def F_X1_findRoute_J133 (N : Nat) (nx90 : (Int × Int × Sto) → Option (Int × Sto)) (v0 : Nat) (v3 : Int) (t0 : Int) (σ : Sto) : Option (Int × Sto) :=
  nx90 (t0, (ja v3 1), σ)
def F_X1_findRoute_B90 (N : Nat) (nx90 : (Int × Int × Sto) → Option (Int × Sto)) (v0 : Nat) (v2 : Int) (v3 : Int) (σ : Sto) : Option (Int × Sto) :=
  if 12 ≤ v3 then (F_X1_findRoute_J140 N  v0 σ) else (if v2 < 0 then (F_X1_findRoute_J140 N  v0 σ) else (inb v3 12 (inb v2 12 (if ((upI (upI σ (v0 + 8) v3 v2) v0 9 (ja v3 1)).1 (v0 + 7) v2) ≤ 1 then (F_X1_findRoute_J133 N nx90 v0 v3 (-1) (upI (upI σ (v0 + 8) v3 v2) v0 9 (ja v3 1))) else ((F_X1_followerOf N v0 v2 (upI (upI σ (v0 + 8) v3 v2) v0 9 (ja v3 1))).bind (fun q10 => F_X1_findRoute_J133 N nx90 v0 v3 q10 (upI (upI σ (v0 + 8) v3 v2) v0 9 (ja v3 1))))))))
def F_X1_findRoute_J81 (N : Nat)  (v0 : Nat) (v1 : Int) (σ : Sto) : Option (Int × Sto) :=
  loopK (fun q nx90 => F_X1_findRoute_B90 N  nx90 v0 q.1 q.2.1 q.2.2) N (v1, 0, (upI σ v0 9 0))
def F_X1_findRoute_J75 (N : Nat) (nx4 : (Int × Int) → Option (Int × Sto)) (v0 : Nat) (v1 : Int) (v2 : Int) (σ : Sto) : Option (Int × Sto) :=
  nx4 (v1, (ja v2 1))
def F_X1_findRoute_J73 (N : Nat) (nx4 : (Int × Int) → Option (Int × Sto)) (v0 : Nat) (v2 : Int) (σ : Sto) : Option (Int × Sto) :=
  F_X1_findRoute_J75 N nx4 v0 v2 v2 σ
def F_X1_findRoute_J44 (N : Nat) (nx4 : (Int × Int) → Option (Int × Sto)) (v0 : Nat) (v1 : Int) (v2 : Int) (t0 : Int) (σ : Sto) : Option (Int × Sto) :=
  if t0 = 0 then (F_X1_findRoute_J75 N nx4 v0 v1 v2 σ) else (if v1 < 0 then (F_X1_findRoute_J73 N nx4 v0 v2 σ) else (inb v2 12 ((F_X1_isBetter N v0 (σ.1 (v0 + 6) v2) (σ.1 (v0 + 7) v2) v1 σ).bind (fun q15 => if q15 = 0 then (F_X1_findRoute_J75 N nx4 v0 v1 v2 σ) else (F_X1_findRoute_J73 N nx4 v0 v2 σ)))))
def F_X1_findRoute_J43 (N : Nat) (nx4 : (Int × Int) → Option (Int × Sto)) (v0 : Nat) (v1 : Int) (v2 : Int) (σ : Sto) : Option (Int × Sto) :=
  F_X1_findRoute_J44 N nx4 v0 v1 v2 0 σ
def F_X1_findRoute_B4 (N : Nat) (nx4 : (Int × Int) → Option (Int × Sto)) (v0 : Nat) (v1 : Int) (v2 : Int) (σ : Sto) : Option (Int × Sto) :=
  if (σ.1 v0 11) ≤ v2 then (F_X1_findRoute_J81 N  v0 v1 σ) else (inb v2 12 (if 0 ≤ (σ.1 (v0 + 1) v2) then (F_X1_findRoute_J43 N nx4 v0 v1 v2 σ) else (if (σ.1 (v0 + 2) v2) ≤ 0 then (F_X1_findRoute_J43 N nx4 v0 v1 v2 σ) else (if (σ.1 (v0 + 7) v2) ≤ 0 then (F_X1_findRoute_J43 N nx4 v0 v1 v2 σ) else (F_X1_findRoute_J44 N nx4 v0 v1 v2 1 σ)))))
def F_X1_findRoute (N : Nat) (v0 : Nat) (σ : Sto) : Option (Int × Sto) :=
  loopK (fun q nx4 => F_X1_findRoute_B4 N  nx4 v0 q.1 q.2 σ) N ((-1), 0)
set_option maxHeartbeats 4000000 in
set_option maxRecDepth 100000 in
theorem c_X1_findRoute (l : Launch) (g : Geo) (N : Nat) (v0 : Nat) (σ : Sto) (res : Int × Sto) (hk0 : knd v0 = (11, 14)) (ok : OK σ) (hF : F_X1_findRoute N v0 σ = some res) : MtI l g yX1_findRoute cX1_findRoute 4 (some .boolean) rm_X1_findRoute [vr g v0] σ res.1 res.2 isB := by
  intro sz
  refine Met.ofAt (own := RX1) (QQ := fun z => QI g z res.1 res.2 isB) (by decide +kernel) (Nat.le_of_ble_eq_true rfl) rfl ?_
  intro p e s m args below meth c C hr hlk
  show At p l e rm_X1_findRoute s m args below meth c 0 0 g 4 (MQ below (QI g s.heap.size res.1 res.2 isB) args s 0 0 (AA g s.heap.size)) 0 [(0, vr g v0)] [] σ
  unfold F_X1_findRoute at hF
  refine at_iconst (pc := 0) C dX1_findRoute_0 ?_
  refine at_istore_n (pc := 1) (lv' := [(1, vi (-1)), (0, vr g v0)]) C dX1_findRoute_1 rfl (Nat.le_of_ble_eq_true rfl) rfl ?_
  refine at_iconst (pc := 2) C dX1_findRoute_2 ?_
  refine at_istore_n (pc := 3) (lv' := [(2, vi 0), (1, vi (-1)), (0, vr g v0)]) C dX1_findRoute_3 rfl (Nat.le_of_ble_eq_true rfl) rfl ?_
  have L4 : ∀ (v0 : Nat) (v1 : Int) (v2 : Int) (σ : Sto), knd v0 = (11, 14) → inR v1 → inR v2 → OK σ → loopK (fun q nx4 => F_X1_findRoute_B4 N  nx4 v0 q.1 q.2 σ) N (v1, v2) = some res → At p l e rm_X1_findRoute s m args below meth c 0 0 g 4 (MQ below (QI g s.heap.size res.1 res.2 isB) args s 0 0 (AA g s.heap.size)) 4 [(0, vr g v0), (1, vi v1), (2, vi v2)] [] σ := by
    intro v0 v1 v2 σ hk0 h1 h2 ok hF
    refine loopK_ind (res := res) (P := fun (q : Int × Int) => inR q.1 → inR q.2 → At p l e rm_X1_findRoute s m args below meth c 0 0 g 4 (MQ below (QI g s.heap.size res.1 res.2 isB) args s 0 0 (AA g s.heap.size)) 4 [(0, vr g v0), (1, vi q.1), (2, vi q.2)] [] σ) ?_ N _ hF h1 h2
    intro nx4 q ih4 hF
    obtain ⟨v1, v2⟩ := q
    intro h1 h2
    have hF : F_X1_findRoute_B4 N  nx4 v0 v1 v2 σ = some res := hF
    unfold F_X1_findRoute_B4 at hF
    have J81 : ∀ (v0 : Nat) (v1 : Int) (σ : Sto), knd v0 = (11, 14) → inR v1 → OK σ → F_X1_findRoute_J81 N  v0 v1 σ = some res → At p l e rm_X1_findRoute s m args below meth c 0 0 g 4 (MQ below (QI g s.heap.size res.1 res.2 isB) args s 0 0 (AA g s.heap.size)) 81 [(0, vr g v0), (1, vi v1)] [] σ := by
      intro v0 v1 σ hk0 h1 ok hF
      unfold F_X1_findRoute_J81 at hF
      refine at_aload_n (pc := 81) C 0 dX1_findRoute_81 rfl rfl ?_
      refine at_iconst (pc := 82) C dX1_findRoute_82 ?_
      refine at_puti (pc := 83) (jz := 9) C fu_1_39 hk0 rfl (Nat.le_of_ble_eq_true rfl) rfl rfl dX1_findRoute_83 ?_
      refine at_iload_n (pc := 86) C 1 dX1_findRoute_86 rfl rfl ?_
      refine at_istore_n (pc := 87) (lv' := [(2, vi v1), (0, vr g v0), (1, vi v1)]) C dX1_findRoute_87 rfl (Nat.le_of_ble_eq_true rfl) rfl ?_
      refine at_iconst (pc := 88) C dX1_findRoute_88 ?_
      refine at_istore_n (pc := 89) (lv' := [(3, vi 0), (2, vi v1), (0, vr g v0), (1, vi v1)]) C dX1_findRoute_89 rfl (Nat.le_of_ble_eq_true rfl) rfl ?_
      have L90 : ∀ (v0 : Nat) (v2 : Int) (v3 : Int) (σ : Sto), knd v0 = (11, 14) → inR v2 → inR v3 → OK σ → loopK (fun q nx90 => F_X1_findRoute_B90 N  nx90 v0 q.1 q.2.1 q.2.2) N (v2, v3, σ) = some res → At p l e rm_X1_findRoute s m args below meth c 0 0 g 4 (MQ below (QI g s.heap.size res.1 res.2 isB) args s 0 0 (AA g s.heap.size)) 90 [(0, vr g v0), (2, vi v2), (3, vi v3)] [] σ := by
        intro v0 v2 v3 σ hk0 h2 h3 ok hF
        refine loopK_ind (res := res) (P := fun (q : Int × Int × Sto) => inR q.1 → inR q.2.1 → OK q.2.2 → At p l e rm_X1_findRoute s m args below meth c 0 0 g 4 (MQ below (QI g s.heap.size res.1 res.2 isB) args s 0 0 (AA g s.heap.size)) 90 [(0, vr g v0), (2, vi q.1), (3, vi q.2.1)] [] q.2.2) ?_ N _ hF h2 h3 ok
        intro nx90 q ih90 hF
        obtain ⟨v2, v3, σ⟩ := q
        intro h2 h3 ok
        have hF : F_X1_findRoute_B90 N  nx90 v0 v2 v3 σ = some res := hF
        unfold F_X1_findRoute_B90 at hF
        have J140 : ∀ (v0 : Nat) (σ : Sto), knd v0 = (11, 14) → OK σ → F_X1_findRoute_J140 N  v0 σ = some res → At p l e rm_X1_findRoute s m args below meth c 0 0 g 4 (MQ below (QI g s.heap.size res.1 res.2 isB) args s 0 0 (AA g s.heap.size)) 140 [(0, vr g v0)] [] σ := by
          intro v0 σ hk0 ok hF
          unfold F_X1_findRoute_J140 at hF
          have J172 : ∀  (σ : Sto), OK σ → F_X1_findRoute_J172 N   σ = some res → At p l e rm_X1_findRoute s m args below meth c 0 0 g 4 (MQ below (QI g s.heap.size res.1 res.2 isB) args s 0 0 (AA g s.heap.size)) 172 [] [] σ := by
            intro σ ok hF
            unfold F_X1_findRoute_J172 at hF
            refine at_iconst (pc := 172) C dX1_findRoute_172 ?_
            obtain rfl := Option.some.inj hF
            exact at_zret (pc := 173) C hr hlk (Or.inl rfl) ok dX1_findRoute_173
          refine at_aload_n (pc := 140) C 0 dX1_findRoute_140 rfl rfl ?_
          refine at_geti (pc := 141) (jz := 9) C fw_1_39 hk0 rfl (Nat.le_of_ble_eq_true rfl) rfl rfl dX1_findRoute_141 ?_
          refine at_iconst (pc := 144) C dX1_findRoute_144 ?_
          refine at_icmp_le (pc := 145) (tgt := 172) C (ok v0 9) (isB.r (Or.inr rfl)) dX1_findRoute_145 rfl (fun c1 => ?_) (fun c1 => ?_)
          · have hF := (if_pos c1).symm.trans hF
            refine at_sub (lv' := []) [] rfl ?_
            exact J172 σ ok hF
          · have hF := (if_neg c1).symm.trans hF
            refine at_aload_n (pc := 148) C 0 dX1_findRoute_148 rfl rfl ?_
            refine at_getr (pc := 149) C 7 fw_1_30 hk0 rfl (Nat.le_of_ble_eq_true rfl) rfl rfl dX1_findRoute_149 ?_
            refine at_aload_n (pc := 152) C 0 dX1_findRoute_152 rfl rfl ?_
            refine at_getr (pc := 153) C 8 fw_1_33 hk0 rfl (Nat.le_of_ble_eq_true rfl) rfl rfl dX1_findRoute_153 ?_
            refine at_aload_n (pc := 156) C 0 dX1_findRoute_156 rfl rfl ?_
            refine at_geti (pc := 157) (jz := 9) C fw_1_39 hk0 rfl (Nat.le_of_ble_eq_true rfl) rfl rfl dX1_findRoute_157 ?_
            refine at_iconst (pc := 160) C dX1_findRoute_160 ?_
            refine at_isub (pc := 161) C dX1_findRoute_161 ?_
            obtain ⟨b2, hF⟩ := inb_some hF
            refine at_iaload (pc := 162) C (kf1_7 hk0) b2 dX1_findRoute_162 ?_
            obtain ⟨b3, hF⟩ := inb_some hF
            refine at_iaload (pc := 163) C (kf1_6 hk0) b3 dX1_findRoute_163 ?_
            refine at_iconst (pc := 164) C dX1_findRoute_164 ?_
            refine at_icmp_ne (pc := 165) (tgt := 172) C (ok (v0 + 7) (σ.1 (v0 + 8) (js (σ.1 v0 9) 1))) (isB.r (Or.inr rfl)) dX1_findRoute_165 rfl (fun c4 => ?_) (fun c4 => ?_)
            · have hF := (if_neg c4).symm.trans hF
              refine at_sub (lv' := []) [] rfl ?_
              exact J172 σ ok hF
            · have hF := (if_pos c4).symm.trans hF
              refine at_iconst (pc := 168) C dX1_findRoute_168 ?_
              refine at_goto (pc := 169) (tgt := 173) C dX1_findRoute_169 rfl ?_
              obtain rfl := Option.some.inj hF
              exact at_zret (pc := 173) C hr hlk (Or.inr rfl) ok dX1_findRoute_173
        refine at_iload_n (pc := 90) C 2 dX1_findRoute_90 rfl rfl ?_
        refine at_bipush (pc := 91) C dX1_findRoute_91 (by decide) ?_
        refine at_icmp_ge (pc := 93) (tgt := 140) C h3 (show inR 12 from ⟨by decide, by decide⟩) dX1_findRoute_93 rfl (fun c5 => ?_) (fun c5 => ?_)
        · have hF := (if_pos c5).symm.trans hF
          refine at_sub (lv' := [(0, vr g v0)]) [0] rfl ?_
          exact J140 v0 σ hk0 ok hF
        · have hF := (if_neg c5).symm.trans hF
          refine at_iload_n (pc := 96) C 1 dX1_findRoute_96 rfl rfl ?_
          refine at_if_lt (pc := 97) (tgt := 140) C h2 dX1_findRoute_97 rfl (fun c6 => ?_) (fun c6 => ?_)
          · have hF := (if_pos c6).symm.trans hF
            refine at_sub (lv' := [(0, vr g v0)]) [0] rfl ?_
            exact J140 v0 σ hk0 ok hF
          · have hF := (if_neg c6).symm.trans hF
            have J133 : ∀ (v3 : Int) (t0 : Int) (σ : Sto), inR v3 → inR t0 → OK σ → F_X1_findRoute_J133 N nx90 v0 v3 t0 σ = some res → At p l e rm_X1_findRoute s m args below meth c 0 0 g 4 (MQ below (QI g s.heap.size res.1 res.2 isB) args s 0 0 (AA g s.heap.size)) 133 [(0, vr g v0), (3, vi v3)] [vi t0] σ := by
              intro v3 t0 σ h3 ht0 ok hF
              unfold F_X1_findRoute_J133 at hF
              refine at_istore_n (pc := 133) (lv' := [(2, vi t0), (0, vr g v0), (3, vi v3)]) C dX1_findRoute_133 rfl (Nat.le_of_ble_eq_true rfl) rfl ?_
              refine at_iinc (pc := 134) (lv' := [(3, vi (ja v3 1)), (2, vi t0), (0, vr g v0)]) C 2 dX1_findRoute_134 rfl (Nat.le_of_ble_eq_true rfl) rfl ?_
              refine at_goto (pc := 137) (tgt := 90) C dX1_findRoute_137 rfl ?_
              refine at_sub (lv' := [(0, vr g v0), (2, vi t0), (3, vi (ja v3 1))]) [2, 1, 0] rfl ?_
              exact ih90 _ hF ht0 (ja_R v3 1) ok
            refine at_aload_n (pc := 100) C 0 dX1_findRoute_100 rfl rfl ?_
            refine at_getr (pc := 101) C 8 fw_1_33 hk0 rfl (Nat.le_of_ble_eq_true rfl) rfl rfl dX1_findRoute_101 ?_
            refine at_iload_n (pc := 104) C 2 dX1_findRoute_104 rfl rfl ?_
            refine at_iload_n (pc := 105) C 1 dX1_findRoute_105 rfl rfl ?_
            obtain ⟨b7, hF⟩ := inb_some hF
            refine at_iastore (pc := 106) C (kf1_7 hk0) b7 dX1_findRoute_106 ?_
            refine at_aload_n (pc := 107) C 0 dX1_findRoute_107 rfl rfl ?_
            refine at_iload_n (pc := 108) C 2 dX1_findRoute_108 rfl rfl ?_
            refine at_iconst (pc := 109) C dX1_findRoute_109 ?_
            refine at_iadd (pc := 110) C dX1_findRoute_110 ?_
            refine at_puti (pc := 111) (jz := 9) C fu_1_39 hk0 rfl (Nat.le_of_ble_eq_true rfl) rfl rfl dX1_findRoute_111 ?_
            refine at_aload_n (pc := 114) C 0 dX1_findRoute_114 rfl rfl ?_
            refine at_getr (pc := 115) C 7 fw_1_30 hk0 rfl (Nat.le_of_ble_eq_true rfl) rfl rfl dX1_findRoute_115 ?_
            refine at_iload_n (pc := 118) C 1 dX1_findRoute_118 rfl rfl ?_
            obtain ⟨b8, hF⟩ := inb_some hF
            refine at_iaload (pc := 119) C (kf1_6 hk0) b8 dX1_findRoute_119 ?_
            refine at_iconst (pc := 120) C dX1_findRoute_120 ?_
            refine at_icmp_le (pc := 121) (tgt := 132) C ((OK_up (k := v0) (j := 9) (OK_up (k := (v0 + 8)) (j := v3) ok h2) (ja_R v3 1)) (v0 + 7) v2) (isB.r (Or.inr rfl)) dX1_findRoute_121 rfl (fun c9 => ?_) (fun c9 => ?_)
            · have hF := (if_pos c9).symm.trans hF
              refine at_iconst (pc := 132) C dX1_findRoute_132 ?_
              refine at_sub (lv' := [(0, vr g v0), (3, vi v3)]) [0, 2] rfl ?_
              exact J133 v3 (-1) (upI (upI σ (v0 + 8) v3 v2) v0 9 (ja v3 1)) h3 (show inR (-1) from ⟨by decide, by decide⟩) (OK_up (k := v0) (j := 9) (OK_up (k := (v0 + 8)) (j := v3) ok h2) (ja_R v3 1)) hF
            · have hF := (if_neg c9).symm.trans hF
              refine at_aload_n (pc := 124) C 0 dX1_findRoute_124 rfl rfl ?_
              refine at_iload_n (pc := 125) C 1 dX1_findRoute_125 rfl rfl ?_
              obtain ⟨q10, eq10, hF⟩ := bind_some' hF
              refine at_callV (pc := 126) (ci := 1) C (c_X1_followerOf l g N v0 v2 (upI (upI σ (v0 + 8) v3 v2) v0 9 (ja v3 1)) q10 hk0 h2 (OK_up (k := v0) (j := 9) (OK_up (k := (v0 + 8)) (j := v3) ok h2) (ja_R v3 1)) eq10) kv_X1_followerOf w984 hk0 rfl rfl rfl rfl (Nat.le_of_ble_eq_true rfl) ⟨rfl, rfl, (Nat.le_of_ble_eq_true rfl), (Nat.le_of_ble_eq_true rfl)⟩ dX1_findRoute_126 (fun tq10 okq10 => ?_)
              refine at_goto (pc := 129) (tgt := 133) C dX1_findRoute_129 rfl ?_
              refine at_sub (lv' := [(0, vr g v0), (3, vi v3)]) [0, 2] rfl ?_
              exact J133 v3 q10 (upI (upI σ (v0 + 8) v3 v2) v0 9 (ja v3 1)) h3 tq10 (OK_up (k := v0) (j := 9) (OK_up (k := (v0 + 8)) (j := v3) ok h2) (ja_R v3 1)) hF
      refine at_sub (lv' := [(0, vr g v0), (2, vi v1), (3, vi 0)]) [2, 1, 0] rfl ?_
      exact L90 v0 v1 0 (upI σ v0 9 0) hk0 h1 (isB.r (Or.inl rfl)) (OK_up (k := v0) (j := 9) ok (isB.r (Or.inl rfl))) hF
    refine at_iload_n (pc := 4) C 2 dX1_findRoute_4 rfl rfl ?_
    refine at_aload_n (pc := 5) C 0 dX1_findRoute_5 rfl rfl ?_
    refine at_geti (pc := 6) (jz := 11) C fw_1_46 hk0 rfl (Nat.le_of_ble_eq_true rfl) rfl rfl dX1_findRoute_6 ?_
    refine at_icmp_ge (pc := 9) (tgt := 81) C h2 (ok v0 11) dX1_findRoute_9 rfl (fun c11 => ?_) (fun c11 => ?_)
    · have hF := (if_pos c11).symm.trans hF
      refine at_sub (lv' := [(0, vr g v0), (1, vi v1)]) [0, 1] rfl ?_
      exact J81 v0 v1 σ hk0 h1 ok hF
    · have hF := (if_neg c11).symm.trans hF
      have J44 : ∀ (v1 : Int) (v2 : Int) (t0 : Int), inR v1 → inR v2 → isB t0 → F_X1_findRoute_J44 N nx4 v0 v1 v2 t0 σ = some res → At p l e rm_X1_findRoute s m args below meth c 0 0 g 4 (MQ below (QI g s.heap.size res.1 res.2 isB) args s 0 0 (AA g s.heap.size)) 44 [(0, vr g v0), (1, vi v1), (2, vi v2)] [vi t0] σ := by
        intro v1 v2 t0 h1 h2 ht0 hF
        unfold F_X1_findRoute_J44 at hF
        have J75 : ∀ (v1 : Int) (v2 : Int), inR v1 → inR v2 → F_X1_findRoute_J75 N nx4 v0 v1 v2 σ = some res → At p l e rm_X1_findRoute s m args below meth c 0 0 g 4 (MQ below (QI g s.heap.size res.1 res.2 isB) args s 0 0 (AA g s.heap.size)) 75 [(0, vr g v0), (1, vi v1), (2, vi v2)] [] σ := by
          intro v1 v2 h1 h2 hF
          unfold F_X1_findRoute_J75 at hF
          refine at_iinc (pc := 75) (lv' := [(2, vi (ja v2 1)), (0, vr g v0), (1, vi v1)]) C 2 dX1_findRoute_75 rfl (Nat.le_of_ble_eq_true rfl) rfl ?_
          refine at_goto (pc := 78) (tgt := 4) C dX1_findRoute_78 rfl ?_
          refine at_sub (lv' := [(0, vr g v0), (1, vi v1), (2, vi (ja v2 1))]) [1, 2, 0] rfl ?_
          exact ih4 _ hF h1 (ja_R v2 1)
        refine at_istore_n (pc := 44) (lv' := [(3, vi t0), (0, vr g v0), (1, vi v1), (2, vi v2)]) C dX1_findRoute_44 rfl (Nat.le_of_ble_eq_true rfl) rfl ?_
        refine at_iload_n (pc := 45) C 0 dX1_findRoute_45 rfl rfl ?_
        refine at_if_eq (pc := 46) (tgt := 75) C (isB.r ht0) dX1_findRoute_46 rfl (fun c12 => ?_) (fun c12 => ?_)
        · have hF := (if_pos c12).symm.trans hF
          refine at_sub (lv' := [(0, vr g v0), (1, vi v1), (2, vi v2)]) [1, 2, 3] rfl ?_
          exact J75 v1 v2 h1 h2 hF
        · have hF := (if_neg c12).symm.trans hF
          have J73 : ∀ (v2 : Int), inR v2 → F_X1_findRoute_J73 N nx4 v0 v2 σ = some res → At p l e rm_X1_findRoute s m args below meth c 0 0 g 4 (MQ below (QI g s.heap.size res.1 res.2 isB) args s 0 0 (AA g s.heap.size)) 73 [(0, vr g v0), (2, vi v2)] [] σ := by
            intro v2 h2 hF
            unfold F_X1_findRoute_J73 at hF
            refine at_iload_n (pc := 73) C 1 dX1_findRoute_73 rfl rfl ?_
            refine at_istore_n (pc := 74) (lv' := [(1, vi v2), (0, vr g v0), (2, vi v2)]) C dX1_findRoute_74 rfl (Nat.le_of_ble_eq_true rfl) rfl ?_
            refine at_sub (lv' := [(0, vr g v0), (1, vi v2), (2, vi v2)]) [1, 0, 2] rfl ?_
            exact J75 v2 v2 h2 h2 hF
          refine at_iload_n (pc := 49) C 2 dX1_findRoute_49 rfl rfl ?_
          refine at_if_lt (pc := 50) (tgt := 73) C h1 dX1_findRoute_50 rfl (fun c13 => ?_) (fun c13 => ?_)
          · have hF := (if_pos c13).symm.trans hF
            refine at_sub (lv' := [(0, vr g v0), (2, vi v2)]) [1, 3] rfl ?_
            exact J73 v2 h2 hF
          · have hF := (if_neg c13).symm.trans hF
            refine at_aload_n (pc := 53) C 1 dX1_findRoute_53 rfl rfl ?_
            refine at_aload_n (pc := 54) C 1 dX1_findRoute_54 rfl rfl ?_
            refine at_getr (pc := 55) C 6 fw_1_27 hk0 rfl (Nat.le_of_ble_eq_true rfl) rfl rfl dX1_findRoute_55 ?_
            refine at_iload_n (pc := 58) C 3 dX1_findRoute_58 rfl rfl ?_
            obtain ⟨b14, hF⟩ := inb_some hF
            refine at_iaload (pc := 59) C (kf1_5 hk0) b14 dX1_findRoute_59 ?_
            refine at_aload_n (pc := 60) C 1 dX1_findRoute_60 rfl rfl ?_
            refine at_getr (pc := 61) C 7 fw_1_30 hk0 rfl (Nat.le_of_ble_eq_true rfl) rfl rfl dX1_findRoute_61 ?_
            refine at_iload_n (pc := 64) C 3 dX1_findRoute_64 rfl rfl ?_
            refine at_iaload (pc := 65) C (kf1_6 hk0) b14 dX1_findRoute_65 ?_
            refine at_iload_n (pc := 66) C 2 dX1_findRoute_66 rfl rfl ?_
            obtain ⟨q15, eq15, hF⟩ := bind_some' hF
            refine at_callV (pc := 67) (ci := 1) C (c_X1_isBetter l g N v0 (σ.1 (v0 + 6) v2) (σ.1 (v0 + 7) v2) v1 σ q15 hk0 (ok (v0 + 6) v2) (ok (v0 + 7) v2) h1 ok eq15) kv_X1_isBetter w976 hk0 rfl rfl rfl rfl (Nat.le_of_ble_eq_true rfl) ⟨rfl, rfl, (Nat.le_of_ble_eq_true rfl), (Nat.le_of_ble_eq_true rfl)⟩ dX1_findRoute_67 (fun tq15 okq15 => ?_)
            refine at_if_eq (pc := 70) (tgt := 75) C (isB.r tq15) dX1_findRoute_70 rfl (fun c16 => ?_) (fun c16 => ?_)
            · have hF := (if_pos c16).symm.trans hF
              refine at_sub (lv' := [(0, vr g v0), (1, vi v1), (2, vi v2)]) [1, 2, 3] rfl ?_
              exact J75 v1 v2 h1 h2 hF
            · have hF := (if_neg c16).symm.trans hF
              refine at_sub (lv' := [(0, vr g v0), (2, vi v2)]) [1, 3] rfl ?_
              exact J73 v2 h2 hF
      have J43 : ∀ (v1 : Int) (v2 : Int), inR v1 → inR v2 → F_X1_findRoute_J43 N nx4 v0 v1 v2 σ = some res → At p l e rm_X1_findRoute s m args below meth c 0 0 g 4 (MQ below (QI g s.heap.size res.1 res.2 isB) args s 0 0 (AA g s.heap.size)) 43 [(0, vr g v0), (1, vi v1), (2, vi v2)] [] σ := by
        intro v1 v2 h1 h2 hF
        unfold F_X1_findRoute_J43 at hF
        refine at_iconst (pc := 43) C dX1_findRoute_43 ?_
        exact J44 v1 v2 0 h1 h2 (Or.inl rfl) hF
      refine at_aload_n (pc := 12) C 0 dX1_findRoute_12 rfl rfl ?_
      refine at_getr (pc := 13) C 1 fw_1_9 hk0 rfl (Nat.le_of_ble_eq_true rfl) rfl rfl dX1_findRoute_13 ?_
      refine at_iload_n (pc := 16) C 2 dX1_findRoute_16 rfl rfl ?_
      obtain ⟨b17, hF⟩ := inb_some hF
      refine at_iaload (pc := 17) C (kf1_0 hk0) b17 dX1_findRoute_17 ?_
      refine at_if_ge (pc := 18) (tgt := 43) C (ok (v0 + 1) v2) dX1_findRoute_18 rfl (fun c18 => ?_) (fun c18 => ?_)
      · have hF := (if_pos c18).symm.trans hF
        exact J43 v1 v2 h1 h2 hF
      · have hF := (if_neg c18).symm.trans hF
        refine at_aload_n (pc := 21) C 0 dX1_findRoute_21 rfl rfl ?_
        refine at_getr (pc := 22) C 2 fw_1_15 hk0 rfl (Nat.le_of_ble_eq_true rfl) rfl rfl dX1_findRoute_22 ?_
        refine at_iload_n (pc := 25) C 2 dX1_findRoute_25 rfl rfl ?_
        refine at_iaload (pc := 26) C (kf1_1 hk0) b17 dX1_findRoute_26 ?_
        refine at_if_le (pc := 27) (tgt := 43) C (ok (v0 + 2) v2) dX1_findRoute_27 rfl (fun c19 => ?_) (fun c19 => ?_)
        · have hF := (if_pos c19).symm.trans hF
          exact J43 v1 v2 h1 h2 hF
        · have hF := (if_neg c19).symm.trans hF
          refine at_aload_n (pc := 30) C 0 dX1_findRoute_30 rfl rfl ?_
          refine at_getr (pc := 31) C 7 fw_1_30 hk0 rfl (Nat.le_of_ble_eq_true rfl) rfl rfl dX1_findRoute_31 ?_
          refine at_iload_n (pc := 34) C 2 dX1_findRoute_34 rfl rfl ?_
          refine at_iaload (pc := 35) C (kf1_6 hk0) b17 dX1_findRoute_35 ?_
          refine at_if_le (pc := 36) (tgt := 43) C (ok (v0 + 7) v2) dX1_findRoute_36 rfl (fun c20 => ?_) (fun c20 => ?_)
          · have hF := (if_pos c20).symm.trans hF
            exact J43 v1 v2 h1 h2 hF
          · have hF := (if_neg c20).symm.trans hF
            refine at_iconst (pc := 39) C dX1_findRoute_39 ?_
            refine at_goto (pc := 40) (tgt := 44) C dX1_findRoute_40 rfl ?_
            exact J44 v1 v2 1 h1 h2 (Or.inr rfl) hF
  refine at_sub (lv' := [(0, vr g v0), (1, vi (-1)), (2, vi 0)]) [2, 1, 0] rfl ?_
  exact L4 v0 (-1) 0 σ hk0 (show inR (-1) from ⟨by decide, by decide⟩) (isB.r (Or.inl rfl)) ok hF
abbrev rm_X1_takeRoute : Room := { frames := 1, cells := 0, slots := 0, locals := 48 }
def F_X1_takeRoute_J228 (N : Nat)  (v0 : Nat) (σ : Sto) : Option (Sto) :=
  some (upI σ v0 12 (ja (σ.1 v0 12) 1))
def F_X1_takeRoute_J163 (N : Nat)  (v0 : Nat) (v1 : Int) (v2 : Int) (σ : Sto) : Option (Sto) :=
  inb 0 12 (inb (σ.1 (v0 + 8) 0) 12 (inb v1 12 (if ((upI (upI (upI σ (v0 + 2) (σ.1 (v0 + 8) 0) (js (σ.1 (v0 + 2) (σ.1 (v0 + 8) 0)) v2)) (v0 + 2) v1 (js ((upI σ (v0 + 2) (σ.1 (v0 + 8) 0) (js (σ.1 (v0 + 2) (σ.1 (v0 + 8) 0)) v2)).1 (v0 + 2) v1) v2)) v0 13 (ja ((upI (upI σ (v0 + 2) (σ.1 (v0 + 8) 0) (js (σ.1 (v0 + 2) (σ.1 (v0 + 8) 0)) v2)) (v0 + 2) v1 (js ((upI σ (v0 + 2) (σ.1 (v0 + 8) 0) (js (σ.1 (v0 + 2) (σ.1 (v0 + 8) 0)) v2)).1 (v0 + 2) v1) v2)).1 v0 13) v2)).1 v0 12) = 0 then (grd ((0 : Int) ≤ 0 ∧ (0 : Int) ≤ 0 ∧ (0 : Int) ≤ 12 ∧ (0 : Int) + 12 ≤ 12 ∧ (0 : Int) + 12 ≤ 12) inferInstance (F_X1_takeRoute_J228 N  v0 (cpI (upI (upI (upI (upI σ (v0 + 2) (σ.1 (v0 + 8) 0) (js (σ.1 (v0 + 2) (σ.1 (v0 + 8) 0)) v2)) (v0 + 2) v1 (js ((upI σ (v0 + 2) (σ.1 (v0 + 8) 0) (js (σ.1 (v0 + 2) (σ.1 (v0 + 8) 0)) v2)).1 (v0 + 2) v1) v2)) v0 13 (ja ((upI (upI σ (v0 + 2) (σ.1 (v0 + 8) 0) (js (σ.1 (v0 + 2) (σ.1 (v0 + 8) 0)) v2)) (v0 + 2) v1 (js ((upI σ (v0 + 2) (σ.1 (v0 + 8) 0) (js (σ.1 (v0 + 2) (σ.1 (v0 + 8) 0)) v2)).1 (v0 + 2) v1) v2)).1 v0 13) v2)) v0 10 ((upI (upI (upI σ (v0 + 2) (σ.1 (v0 + 8) 0) (js (σ.1 (v0 + 2) (σ.1 (v0 + 8) 0)) v2)) (v0 + 2) v1 (js ((upI σ (v0 + 2) (σ.1 (v0 + 8) 0) (js (σ.1 (v0 + 2) (σ.1 (v0 + 8) 0)) v2)).1 (v0 + 2) v1) v2)) v0 13 (ja ((upI (upI σ (v0 + 2) (σ.1 (v0 + 8) 0) (js (σ.1 (v0 + 2) (σ.1 (v0 + 8) 0)) v2)) (v0 + 2) v1 (js ((upI σ (v0 + 2) (σ.1 (v0 + 8) 0) (js (σ.1 (v0 + 2) (σ.1 (v0 + 8) 0)) v2)).1 (v0 + 2) v1) v2)).1 v0 13) v2)).1 v0 9)) (v0 + 8) 0 (v0 + 9) 0 12))) else (F_X1_takeRoute_J228 N  v0 (upI (upI (upI σ (v0 + 2) (σ.1 (v0 + 8) 0) (js (σ.1 (v0 + 2) (σ.1 (v0 + 8) 0)) v2)) (v0 + 2) v1 (js ((upI σ (v0 + 2) (σ.1 (v0 + 8) 0) (js (σ.1 (v0 + 2) (σ.1 (v0 + 8) 0)) v2)).1 (v0 + 2) v1) v2)) v0 13 (ja ((upI (upI σ (v0 + 2) (σ.1 (v0 + 8) 0) (js (σ.1 (v0 + 2) (σ.1 (v0 + 8) 0)) v2)) (v0 + 2) v1 (js ((upI σ (v0 + 2) (σ.1 (v0 + 8) 0) (js (σ.1 (v0 + 2) (σ.1 (v0 + 8) 0)) v2)).1 (v0 + 2) v1) v2)).1 v0 13) v2))))))
def F_X1_takeRoute_J157 (N : Nat) (nx76 : (Int × Sto) → Option (Sto)) (v0 : Nat) (v1 : Int) (v2 : Int) (v3 : Int) (σ : Sto) : Option (Sto) :=
  nx76 ((ja v3 1), σ)
def F_X1_takeRoute_B76 (N : Nat) (nx76 : (Int × Sto) → Option (Sto)) (v0 : Nat) (v1 : Int) (v2 : Int) (v3 : Int) (σ : Sto) : Option (Sto) :=
  if (σ.1 v0 9) ≤ (ja v3 1) then (F_X1_takeRoute_J163 N  v0 v1 v2 σ) else (inb v3 12 (inb (σ.1 (v0 + 8) v3) 12 (if 0 ≤ (σ.1 (v0 + 1) (σ.1 (v0 + 8) v3)) then (inb (ja v3 1) 12 (inb (ja (jm (σ.1 (v0 + 8) (ja v3 1)) 12) (σ.1 (v0 + 8) v3)) 144 (F_X1_takeRoute_J157 N nx76 v0 v1 v2 v3 (upI σ (v0 + 5) (ja (jm (σ.1 (v0 + 8) (ja v3 1)) 12) (σ.1 (v0 + 8) v3)) (js (σ.1 (v0 + 5) (ja (jm (σ.1 (v0 + 8) (ja v3 1)) 12) (σ.1 (v0 + 8) v3))) v2))))) else (inb (ja v3 1) 12 (inb (ja (jm (σ.1 (v0 + 8) v3) 12) (σ.1 (v0 + 8) (ja v3 1))) 144 (F_X1_takeRoute_J157 N nx76 v0 v1 v2 v3 (upI σ (v0 + 5) (ja (jm (σ.1 (v0 + 8) v3) 12) (σ.1 (v0 + 8) (ja v3 1))) (ja (σ.1 (v0 + 5) (ja (jm (σ.1 (v0 + 8) v3) 12) (σ.1 (v0 + 8) (ja v3 1)))) v2))))))))
def F_X1_takeRoute_J74 (N : Nat)  (v0 : Nat) (v1 : Int) (v2 : Int) (σ : Sto) : Option (Sto) :=
  loopK (fun q nx76 => F_X1_takeRoute_B76 N  nx76 v0 v1 v2 q.1 q.2) N (0, σ)
def F_X1_takeRoute_B35 (N : Nat) (nx35 : (Int × Int) → Option (Sto)) (v0 : Nat) (v1 : Int) (v2 : Int) (v3 : Int) (σ : Sto) : Option (Sto) :=
  if (σ.1 v0 9) ≤ (ja v3 1) then (F_X1_takeRoute_J74 N  v0 v1 v2 σ) else (inb v3 12 (inb (ja v3 1) 12 ((F_X1_passable N v0 (σ.1 (v0 + 8) v3) (σ.1 (v0 + 8) (ja v3 1)) σ).bind (fun q21 => nx35 ((jmin v2 q21), (ja v3 1))))))
def F_X1_takeRoute (N : Nat) (v0 : Nat) (σ : Sto) : Option (Sto) :=
  inb (js (σ.1 v0 9) 1) 12 (inb 0 12 (inb (σ.1 (v0 + 8) 0) 12 (inb (σ.1 (v0 + 8) (js (σ.1 v0 9) 1)) 12 (loopK (fun q nx35 => F_X1_takeRoute_B35 N  nx35 v0 (σ.1 (v0 + 8) (js (σ.1 v0 9) 1)) q.1 q.2 σ) N ((jmin (σ.1 (v0 + 2) (σ.1 (v0 + 8) 0)) (σ.1 (v0 + 2) (σ.1 (v0 + 8) (js (σ.1 v0 9) 1)))), 0)))))
set_option maxHeartbeats 4000000 in
set_option maxRecDepth 100000 in
theorem c_X1_takeRoute (l : Launch) (g : Geo) (N : Nat) (v0 : Nat) (σ : Sto) (res : Sto) (hk0 : knd v0 = (11, 14)) (ok : OK σ) (hF : F_X1_takeRoute N v0 σ = some res) : MtV l g yX1_takeRoute cX1_takeRoute 4 none rm_X1_takeRoute [vr g v0] σ res := by
  intro sz
  refine Met.ofAt (own := RX1) (QQ := fun z => QV g z res) (by decide +kernel) (Nat.le_of_ble_eq_true rfl) rfl ?_
  intro p e s m args below meth c C hr hlk
  show At p l e rm_X1_takeRoute s m args below meth c 0 0 g 4 (MQ below (QV g s.heap.size res) args s 0 0 (AA g s.heap.size)) 0 [(0, vr g v0)] [] σ
  unfold F_X1_takeRoute at hF
  refine at_aload_n (pc := 0) C 0 dX1_takeRoute_0 rfl rfl ?_
  refine at_getr (pc := 1) C 8 fw_1_33 hk0 rfl (Nat.le_of_ble_eq_true rfl) rfl rfl dX1_takeRoute_1 ?_
  refine at_aload_n (pc := 4) C 0 dX1_takeRoute_4 rfl rfl ?_
  refine at_geti (pc := 5) (jz := 9) C fw_1_39 hk0 rfl (Nat.le_of_ble_eq_true rfl) rfl rfl dX1_takeRoute_5 ?_
  refine at_iconst (pc := 8) C dX1_takeRoute_8 ?_
  refine at_isub (pc := 9) C dX1_takeRoute_9 ?_
  obtain ⟨b1, hF⟩ := inb_some hF
  refine at_iaload (pc := 10) C (kf1_7 hk0) b1 dX1_takeRoute_10 ?_
  refine at_istore_n (pc := 11) (lv' := [(1, vi (σ.1 (v0 + 8) (js (σ.1 v0 9) 1))), (0, vr g v0)]) C dX1_takeRoute_11 rfl (Nat.le_of_ble_eq_true rfl) rfl ?_
  refine at_aload_n (pc := 12) C 1 dX1_takeRoute_12 rfl rfl ?_
  refine at_getr (pc := 13) C 2 fw_1_15 hk0 rfl (Nat.le_of_ble_eq_true rfl) rfl rfl dX1_takeRoute_13 ?_
  refine at_aload_n (pc := 16) C 1 dX1_takeRoute_16 rfl rfl ?_
  refine at_getr (pc := 17) C 8 fw_1_33 hk0 rfl (Nat.le_of_ble_eq_true rfl) rfl rfl dX1_takeRoute_17 ?_
  refine at_iconst (pc := 20) C dX1_takeRoute_20 ?_
  obtain ⟨b2, hF⟩ := inb_some hF
  refine at_iaload (pc := 21) C (kf1_7 hk0) b2 dX1_takeRoute_21 ?_
  obtain ⟨b3, hF⟩ := inb_some hF
  refine at_iaload (pc := 22) C (kf1_1 hk0) b3 dX1_takeRoute_22 ?_
  refine at_aload_n (pc := 23) C 1 dX1_takeRoute_23 rfl rfl ?_
  refine at_getr (pc := 24) C 2 fw_1_15 hk0 rfl (Nat.le_of_ble_eq_true rfl) rfl rfl dX1_takeRoute_24 ?_
  refine at_iload_n (pc := 27) C 0 dX1_takeRoute_27 rfl rfl ?_
  obtain ⟨b4, hF⟩ := inb_some hF
  refine at_iaload (pc := 28) C (kf1_1 hk0) b4 dX1_takeRoute_28 ?_
  refine at_mmin (pc := 29) C km_min w996 (ok (v0 + 2) (σ.1 (v0 + 8) 0)) (ok (v0 + 2) (σ.1 (v0 + 8) (js (σ.1 v0 9) 1))) ⟨(Nat.le_of_ble_eq_true rfl), (Nat.le_of_ble_eq_true rfl)⟩ dX1_takeRoute_29 ?_
  refine at_istore_n (pc := 32) (lv' := [(2, vi (jmin (σ.1 (v0 + 2) (σ.1 (v0 + 8) 0)) (σ.1 (v0 + 2) (σ.1 (v0 + 8) (js (σ.1 v0 9) 1))))), (1, vi (σ.1 (v0 + 8) (js (σ.1 v0 9) 1))), (0, vr g v0)]) C dX1_takeRoute_32 rfl (Nat.le_of_ble_eq_true rfl) rfl ?_
  refine at_iconst (pc := 33) C dX1_takeRoute_33 ?_
  refine at_istore_n (pc := 34) (lv' := [(3, vi 0), (2, vi (jmin (σ.1 (v0 + 2) (σ.1 (v0 + 8) 0)) (σ.1 (v0 + 2) (σ.1 (v0 + 8) (js (σ.1 v0 9) 1))))), (1, vi (σ.1 (v0 + 8) (js (σ.1 v0 9) 1))), (0, vr g v0)]) C dX1_takeRoute_34 rfl (Nat.le_of_ble_eq_true rfl) rfl ?_
  have L35 : ∀ (v0 : Nat) (v1 : Int) (v2 : Int) (v3 : Int) (σ : Sto), knd v0 = (11, 14) → inR v1 → inR v2 → inR v3 → OK σ → loopK (fun q nx35 => F_X1_takeRoute_B35 N  nx35 v0 v1 q.1 q.2 σ) N (v2, v3) = some res → At p l e rm_X1_takeRoute s m args below meth c 0 0 g 4 (MQ below (QV g s.heap.size res) args s 0 0 (AA g s.heap.size)) 35 [(0, vr g v0), (1, vi v1), (2, vi v2), (3, vi v3)] [] σ := by
    intro v0 v1 v2 v3 σ hk0 h1 h2 h3 ok hF
    refine loopK_ind (res := res) (P := fun (q : Int × Int) => inR q.1 → inR q.2 → At p l e rm_X1_takeRoute s m args below meth c 0 0 g 4 (MQ below (QV g s.heap.size res) args s 0 0 (AA g s.heap.size)) 35 [(0, vr g v0), (1, vi v1), (2, vi q.1), (3, vi q.2)] [] σ) ?_ N _ hF h2 h3
    intro nx35 q ih35 hF
    obtain ⟨v2, v3⟩ := q
    intro h2 h3
    have hF : F_X1_takeRoute_B35 N  nx35 v0 v1 v2 v3 σ = some res := hF
    unfold F_X1_takeRoute_B35 at hF
    have J74 : ∀ (v0 : Nat) (v1 : Int) (v2 : Int) (σ : Sto), knd v0 = (11, 14) → inR v1 → inR v2 → OK σ → F_X1_takeRoute_J74 N  v0 v1 v2 σ = some res → At p l e rm_X1_takeRoute s m args below meth c 0 0 g 4 (MQ below (QV g s.heap.size res) args s 0 0 (AA g s.heap.size)) 74 [(0, vr g v0), (1, vi v1), (2, vi v2)] [] σ := by
      intro v0 v1 v2 σ hk0 h1 h2 ok hF
      unfold F_X1_takeRoute_J74 at hF
      refine at_iconst (pc := 74) C dX1_takeRoute_74 ?_
      refine at_istore_n (pc := 75) (lv' := [(3, vi 0), (0, vr g v0), (1, vi v1), (2, vi v2)]) C dX1_takeRoute_75 rfl (Nat.le_of_ble_eq_true rfl) rfl ?_
      have L76 : ∀ (v0 : Nat) (v1 : Int) (v2 : Int) (v3 : Int) (σ : Sto), knd v0 = (11, 14) → inR v1 → inR v2 → inR v3 → OK σ → loopK (fun q nx76 => F_X1_takeRoute_B76 N  nx76 v0 v1 v2 q.1 q.2) N (v3, σ) = some res → At p l e rm_X1_takeRoute s m args below meth c 0 0 g 4 (MQ below (QV g s.heap.size res) args s 0 0 (AA g s.heap.size)) 76 [(0, vr g v0), (1, vi v1), (2, vi v2), (3, vi v3)] [] σ := by
        intro v0 v1 v2 v3 σ hk0 h1 h2 h3 ok hF
        refine loopK_ind (res := res) (P := fun (q : Int × Sto) => inR q.1 → OK q.2 → At p l e rm_X1_takeRoute s m args below meth c 0 0 g 4 (MQ below (QV g s.heap.size res) args s 0 0 (AA g s.heap.size)) 76 [(0, vr g v0), (1, vi v1), (2, vi v2), (3, vi q.1)] [] q.2) ?_ N _ hF h3 ok
        intro nx76 q ih76 hF
        obtain ⟨v3, σ⟩ := q
        intro h3 ok
        have hF : F_X1_takeRoute_B76 N  nx76 v0 v1 v2 v3 σ = some res := hF
        unfold F_X1_takeRoute_B76 at hF
        have J163 : ∀ (v0 : Nat) (v1 : Int) (v2 : Int) (σ : Sto), knd v0 = (11, 14) → inR v1 → inR v2 → OK σ → F_X1_takeRoute_J163 N  v0 v1 v2 σ = some res → At p l e rm_X1_takeRoute s m args below meth c 0 0 g 4 (MQ below (QV g s.heap.size res) args s 0 0 (AA g s.heap.size)) 163 [(0, vr g v0), (1, vi v1), (2, vi v2)] [] σ := by
          intro v0 v1 v2 σ hk0 h1 h2 ok hF
          unfold F_X1_takeRoute_J163 at hF
          have J228 : ∀ (v0 : Nat) (σ : Sto), knd v0 = (11, 14) → OK σ → F_X1_takeRoute_J228 N  v0 σ = some res → At p l e rm_X1_takeRoute s m args below meth c 0 0 g 4 (MQ below (QV g s.heap.size res) args s 0 0 (AA g s.heap.size)) 228 [(0, vr g v0)] [] σ := by
            intro v0 σ hk0 ok hF
            unfold F_X1_takeRoute_J228 at hF
            refine at_aload_n (pc := 228) C 0 dX1_takeRoute_228 rfl rfl ?_
            refine at_dup (pc := 229) C dX1_takeRoute_229 rfl ?_
            refine at_geti (pc := 230) (jz := 12) C fw_1_49 hk0 rfl (Nat.le_of_ble_eq_true rfl) rfl rfl dX1_takeRoute_230 ?_
            refine at_iconst (pc := 233) C dX1_takeRoute_233 ?_
            refine at_iadd (pc := 234) C dX1_takeRoute_234 ?_
            refine at_puti (pc := 235) (jz := 12) C fu_1_49 hk0 rfl (Nat.le_of_ble_eq_true rfl) rfl rfl dX1_takeRoute_235 ?_
            obtain rfl := Option.some.inj hF
            exact at_vret (pc := 238) C hr hlk (OK_up (k := v0) (j := 12) ok (ja_R (σ.1 v0 12) 1)) dX1_takeRoute_238
          refine at_aload_n (pc := 163) C 0 dX1_takeRoute_163 rfl rfl ?_
          refine at_getr (pc := 164) C 2 fw_1_15 hk0 rfl (Nat.le_of_ble_eq_true rfl) rfl rfl dX1_takeRoute_164 ?_
          refine at_aload_n (pc := 167) C 0 dX1_takeRoute_167 rfl rfl ?_
          refine at_getr (pc := 168) C 8 fw_1_33 hk0 rfl (Nat.le_of_ble_eq_true rfl) rfl rfl dX1_takeRoute_168 ?_
          refine at_iconst (pc := 171) C dX1_takeRoute_171 ?_
          obtain ⟨b5, hF⟩ := inb_some hF
          refine at_iaload (pc := 172) C (kf1_7 hk0) b5 dX1_takeRoute_172 ?_
          refine at_dup2 (pc := 173) C dX1_takeRoute_173 rfl rfl ?_
          obtain ⟨b6, hF⟩ := inb_some hF
          refine at_iaload (pc := 174) C (kf1_1 hk0) b6 dX1_takeRoute_174 ?_
          refine at_iload_n (pc := 175) C 2 dX1_takeRoute_175 rfl rfl ?_
          refine at_isub (pc := 176) C dX1_takeRoute_176 ?_
          refine at_iastore (pc := 177) C (kf1_1 hk0) b6 dX1_takeRoute_177 ?_
          refine at_aload_n (pc := 178) C 0 dX1_takeRoute_178 rfl rfl ?_
          refine at_getr (pc := 179) C 2 fw_1_15 hk0 rfl (Nat.le_of_ble_eq_true rfl) rfl rfl dX1_takeRoute_179 ?_
          refine at_iload_n (pc := 182) C 1 dX1_takeRoute_182 rfl rfl ?_
          refine at_dup2 (pc := 183) C dX1_takeRoute_183 rfl rfl ?_
          obtain ⟨b7, hF⟩ := inb_some hF
          refine at_iaload (pc := 184) C (kf1_1 hk0) b7 dX1_takeRoute_184 ?_
          refine at_iload_n (pc := 185) C 2 dX1_takeRoute_185 rfl rfl ?_
          refine at_isub (pc := 186) C dX1_takeRoute_186 ?_
          refine at_iastore (pc := 187) C (kf1_1 hk0) b7 dX1_takeRoute_187 ?_
          refine at_aload_n (pc := 188) C 0 dX1_takeRoute_188 rfl rfl ?_
          refine at_dup (pc := 189) C dX1_takeRoute_189 rfl ?_
          refine at_geti (pc := 190) (jz := 13) C fw_1_52 hk0 rfl (Nat.le_of_ble_eq_true rfl) rfl rfl dX1_takeRoute_190 ?_
          refine at_iload_n (pc := 193) C 2 dX1_takeRoute_193 rfl rfl ?_
          refine at_iadd (pc := 194) C dX1_takeRoute_194 ?_
          refine at_puti (pc := 195) (jz := 13) C fu_1_52 hk0 rfl (Nat.le_of_ble_eq_true rfl) rfl rfl dX1_takeRoute_195 ?_
          refine at_aload_n (pc := 198) C 0 dX1_takeRoute_198 rfl rfl ?_
          refine at_geti (pc := 199) (jz := 12) C fw_1_49 hk0 rfl (Nat.le_of_ble_eq_true rfl) rfl rfl dX1_takeRoute_199 ?_
          refine at_if_ne (pc := 202) (tgt := 228) C ((OK_up (k := v0) (j := 13) (OK_up (k := (v0 + 2)) (j := v1) (OK_up (k := (v0 + 2)) (j := (σ.1 (v0 + 8) 0)) ok (js_R (σ.1 (v0 + 2) (σ.1 (v0 + 8) 0)) v2)) (js_R ((upI σ (v0 + 2) (σ.1 (v0 + 8) 0) (js (σ.1 (v0 + 2) (σ.1 (v0 + 8) 0)) v2)).1 (v0 + 2) v1) v2)) (ja_R ((upI (upI σ (v0 + 2) (σ.1 (v0 + 8) 0) (js (σ.1 (v0 + 2) (σ.1 (v0 + 8) 0)) v2)) (v0 + 2) v1 (js ((upI σ (v0 + 2) (σ.1 (v0 + 8) 0) (js (σ.1 (v0 + 2) (σ.1 (v0 + 8) 0)) v2)).1 (v0 + 2) v1) v2)).1 v0 13) v2)) v0 12) dX1_takeRoute_202 rfl (fun c8 => ?_) (fun c8 => ?_)
          · have hF := (if_neg c8).symm.trans hF
            refine at_sub (lv' := [(0, vr g v0)]) [0] rfl ?_
            exact J228 v0 (upI (upI (upI σ (v0 + 2) (σ.1 (v0 + 8) 0) (js (σ.1 (v0 + 2) (σ.1 (v0 + 8) 0)) v2)) (v0 + 2) v1 (js ((upI σ (v0 + 2) (σ.1 (v0 + 8) 0) (js (σ.1 (v0 + 2) (σ.1 (v0 + 8) 0)) v2)).1 (v0 + 2) v1) v2)) v0 13 (ja ((upI (upI σ (v0 + 2) (σ.1 (v0 + 8) 0) (js (σ.1 (v0 + 2) (σ.1 (v0 + 8) 0)) v2)) (v0 + 2) v1 (js ((upI σ (v0 + 2) (σ.1 (v0 + 8) 0) (js (σ.1 (v0 + 2) (σ.1 (v0 + 8) 0)) v2)).1 (v0 + 2) v1) v2)).1 v0 13) v2)) hk0 (OK_up (k := v0) (j := 13) (OK_up (k := (v0 + 2)) (j := v1) (OK_up (k := (v0 + 2)) (j := (σ.1 (v0 + 8) 0)) ok (js_R (σ.1 (v0 + 2) (σ.1 (v0 + 8) 0)) v2)) (js_R ((upI σ (v0 + 2) (σ.1 (v0 + 8) 0) (js (σ.1 (v0 + 2) (σ.1 (v0 + 8) 0)) v2)).1 (v0 + 2) v1) v2)) (ja_R ((upI (upI σ (v0 + 2) (σ.1 (v0 + 8) 0) (js (σ.1 (v0 + 2) (σ.1 (v0 + 8) 0)) v2)) (v0 + 2) v1 (js ((upI σ (v0 + 2) (σ.1 (v0 + 8) 0) (js (σ.1 (v0 + 2) (σ.1 (v0 + 8) 0)) v2)).1 (v0 + 2) v1) v2)).1 v0 13) v2)) hF
          · have hF := (if_pos c8).symm.trans hF
            refine at_aload_n (pc := 205) C 0 dX1_takeRoute_205 rfl rfl ?_
            refine at_aload_n (pc := 206) C 0 dX1_takeRoute_206 rfl rfl ?_
            refine at_geti (pc := 207) (jz := 9) C fw_1_39 hk0 rfl (Nat.le_of_ble_eq_true rfl) rfl rfl dX1_takeRoute_207 ?_
            refine at_puti (pc := 210) (jz := 10) C fu_1_43 hk0 rfl (Nat.le_of_ble_eq_true rfl) rfl rfl dX1_takeRoute_210 ?_
            refine at_aload_n (pc := 213) C 0 dX1_takeRoute_213 rfl rfl ?_
            refine at_getr (pc := 214) C 8 fw_1_33 hk0 rfl (Nat.le_of_ble_eq_true rfl) rfl rfl dX1_takeRoute_214 ?_
            refine at_iconst (pc := 217) C dX1_takeRoute_217 ?_
            refine at_aload_n (pc := 218) C 0 dX1_takeRoute_218 rfl rfl ?_
            refine at_getr (pc := 219) C 9 fw_1_36 hk0 rfl (Nat.le_of_ble_eq_true rfl) rfl rfl dX1_takeRoute_219 ?_
            refine at_iconst (pc := 222) C dX1_takeRoute_222 ?_
            refine at_bipush (pc := 223) C dX1_takeRoute_223 (by decide) ?_
            obtain ⟨y9, hF⟩ := grd_some hF
            refine at_copy (pc := 225) C kc w997 (kf1_7 hk0) (kf1_8 hk0) y9 ⟨(Nat.le_of_ble_eq_true rfl), (Nat.le_of_ble_eq_true rfl)⟩ dX1_takeRoute_225 ?_
            refine at_sub (lv' := [(0, vr g v0)]) [0] rfl ?_
            exact J228 v0 (cpI (upI (upI (upI (upI σ (v0 + 2) (σ.1 (v0 + 8) 0) (js (σ.1 (v0 + 2) (σ.1 (v0 + 8) 0)) v2)) (v0 + 2) v1 (js ((upI σ (v0 + 2) (σ.1 (v0 + 8) 0) (js (σ.1 (v0 + 2) (σ.1 (v0 + 8) 0)) v2)).1 (v0 + 2) v1) v2)) v0 13 (ja ((upI (upI σ (v0 + 2) (σ.1 (v0 + 8) 0) (js (σ.1 (v0 + 2) (σ.1 (v0 + 8) 0)) v2)) (v0 + 2) v1 (js ((upI σ (v0 + 2) (σ.1 (v0 + 8) 0) (js (σ.1 (v0 + 2) (σ.1 (v0 + 8) 0)) v2)).1 (v0 + 2) v1) v2)).1 v0 13) v2)) v0 10 ((upI (upI (upI σ (v0 + 2) (σ.1 (v0 + 8) 0) (js (σ.1 (v0 + 2) (σ.1 (v0 + 8) 0)) v2)) (v0 + 2) v1 (js ((upI σ (v0 + 2) (σ.1 (v0 + 8) 0) (js (σ.1 (v0 + 2) (σ.1 (v0 + 8) 0)) v2)).1 (v0 + 2) v1) v2)) v0 13 (ja ((upI (upI σ (v0 + 2) (σ.1 (v0 + 8) 0) (js (σ.1 (v0 + 2) (σ.1 (v0 + 8) 0)) v2)) (v0 + 2) v1 (js ((upI σ (v0 + 2) (σ.1 (v0 + 8) 0) (js (σ.1 (v0 + 2) (σ.1 (v0 + 8) 0)) v2)).1 (v0 + 2) v1) v2)).1 v0 13) v2)).1 v0 9)) (v0 + 8) 0 (v0 + 9) 0 12) hk0 (OK_cp (ks := (v0 + 8)) (sp := 0) (kd := (v0 + 9)) (dp := 0) (n := 12) (OK_up (k := v0) (j := 10) (OK_up (k := v0) (j := 13) (OK_up (k := (v0 + 2)) (j := v1) (OK_up (k := (v0 + 2)) (j := (σ.1 (v0 + 8) 0)) ok (js_R (σ.1 (v0 + 2) (σ.1 (v0 + 8) 0)) v2)) (js_R ((upI σ (v0 + 2) (σ.1 (v0 + 8) 0) (js (σ.1 (v0 + 2) (σ.1 (v0 + 8) 0)) v2)).1 (v0 + 2) v1) v2)) (ja_R ((upI (upI σ (v0 + 2) (σ.1 (v0 + 8) 0) (js (σ.1 (v0 + 2) (σ.1 (v0 + 8) 0)) v2)) (v0 + 2) v1 (js ((upI σ (v0 + 2) (σ.1 (v0 + 8) 0) (js (σ.1 (v0 + 2) (σ.1 (v0 + 8) 0)) v2)).1 (v0 + 2) v1) v2)).1 v0 13) v2)) ((OK_up (k := v0) (j := 13) (OK_up (k := (v0 + 2)) (j := v1) (OK_up (k := (v0 + 2)) (j := (σ.1 (v0 + 8) 0)) ok (js_R (σ.1 (v0 + 2) (σ.1 (v0 + 8) 0)) v2)) (js_R ((upI σ (v0 + 2) (σ.1 (v0 + 8) 0) (js (σ.1 (v0 + 2) (σ.1 (v0 + 8) 0)) v2)).1 (v0 + 2) v1) v2)) (ja_R ((upI (upI σ (v0 + 2) (σ.1 (v0 + 8) 0) (js (σ.1 (v0 + 2) (σ.1 (v0 + 8) 0)) v2)) (v0 + 2) v1 (js ((upI σ (v0 + 2) (σ.1 (v0 + 8) 0) (js (σ.1 (v0 + 2) (σ.1 (v0 + 8) 0)) v2)).1 (v0 + 2) v1) v2)).1 v0 13) v2)) v0 9))) hF
        refine at_iload_n (pc := 76) C 3 dX1_takeRoute_76 rfl rfl ?_
        refine at_iconst (pc := 77) C dX1_takeRoute_77 ?_
        refine at_iadd (pc := 78) C dX1_takeRoute_78 ?_
        refine at_aload_n (pc := 79) C 0 dX1_takeRoute_79 rfl rfl ?_
        refine at_geti (pc := 80) (jz := 9) C fw_1_39 hk0 rfl (Nat.le_of_ble_eq_true rfl) rfl rfl dX1_takeRoute_80 ?_
        refine at_icmp_ge (pc := 83) (tgt := 163) C (ja_R v3 1) (ok v0 9) dX1_takeRoute_83 rfl (fun c10 => ?_) (fun c10 => ?_)
        · have hF := (if_pos c10).symm.trans hF
          refine at_sub (lv' := [(0, vr g v0), (1, vi v1), (2, vi v2)]) [0, 1, 2] rfl ?_
          exact J163 v0 v1 v2 σ hk0 h1 h2 ok hF
        · have hF := (if_neg c10).symm.trans hF
          have J157 : ∀ (v3 : Int) (σ : Sto), inR v3 → OK σ → F_X1_takeRoute_J157 N nx76 v0 v1 v2 v3 σ = some res → At p l e rm_X1_takeRoute s m args below meth c 0 0 g 4 (MQ below (QV g s.heap.size res) args s 0 0 (AA g s.heap.size)) 157 [(0, vr g v0), (1, vi v1), (2, vi v2), (3, vi v3)] [] σ := by
            intro v3 σ h3 ok hF
            unfold F_X1_takeRoute_J157 at hF
            refine at_iinc (pc := 157) (lv' := [(3, vi (ja v3 1)), (0, vr g v0), (1, vi v1), (2, vi v2)]) C 3 dX1_takeRoute_157 rfl (Nat.le_of_ble_eq_true rfl) rfl ?_
            refine at_goto (pc := 160) (tgt := 76) C dX1_takeRoute_160 rfl ?_
            refine at_sub (lv' := [(0, vr g v0), (1, vi v1), (2, vi v2), (3, vi (ja v3 1))]) [1, 2, 3, 0] rfl ?_
            exact ih76 _ hF (ja_R v3 1) ok
          refine at_aload_n (pc := 86) C 0 dX1_takeRoute_86 rfl rfl ?_
          refine at_getr (pc := 87) C 1 fw_1_9 hk0 rfl (Nat.le_of_ble_eq_true rfl) rfl rfl dX1_takeRoute_87 ?_
          refine at_aload_n (pc := 90) C 0 dX1_takeRoute_90 rfl rfl ?_
          refine at_getr (pc := 91) C 8 fw_1_33 hk0 rfl (Nat.le_of_ble_eq_true rfl) rfl rfl dX1_takeRoute_91 ?_
          refine at_iload_n (pc := 94) C 3 dX1_takeRoute_94 rfl rfl ?_
          obtain ⟨b11, hF⟩ := inb_some hF
          refine at_iaload (pc := 95) C (kf1_7 hk0) b11 dX1_takeRoute_95 ?_
          obtain ⟨b12, hF⟩ := inb_some hF
          refine at_iaload (pc := 96) C (kf1_0 hk0) b12 dX1_takeRoute_96 ?_
          refine at_if_ge (pc := 97) (tgt := 130) C (ok (v0 + 1) (σ.1 (v0 + 8) v3)) dX1_takeRoute_97 rfl (fun c13 => ?_) (fun c13 => ?_)
          · have hF := (if_pos c13).symm.trans hF
            refine at_aload_n (pc := 130) C 0 dX1_takeRoute_130 rfl rfl ?_
            refine at_getr (pc := 131) C 5 fw_1_24 hk0 rfl (Nat.le_of_ble_eq_true rfl) rfl rfl dX1_takeRoute_131 ?_
            refine at_aload_n (pc := 134) C 0 dX1_takeRoute_134 rfl rfl ?_
            refine at_getr (pc := 135) C 8 fw_1_33 hk0 rfl (Nat.le_of_ble_eq_true rfl) rfl rfl dX1_takeRoute_135 ?_
            refine at_iload_n (pc := 138) C 3 dX1_takeRoute_138 rfl rfl ?_
            refine at_iconst (pc := 139) C dX1_takeRoute_139 ?_
            refine at_iadd (pc := 140) C dX1_takeRoute_140 ?_
            obtain ⟨b14, hF⟩ := inb_some hF
            refine at_iaload (pc := 141) C (kf1_7 hk0) b14 dX1_takeRoute_141 ?_
            refine at_bipush (pc := 142) C dX1_takeRoute_142 (by decide) ?_
            refine at_imul (pc := 144) C dX1_takeRoute_144 ?_
            refine at_aload_n (pc := 145) C 0 dX1_takeRoute_145 rfl rfl ?_
            refine at_getr (pc := 146) C 8 fw_1_33 hk0 rfl (Nat.le_of_ble_eq_true rfl) rfl rfl dX1_takeRoute_146 ?_
            refine at_iload_n (pc := 149) C 3 dX1_takeRoute_149 rfl rfl ?_
            refine at_iaload (pc := 150) C (kf1_7 hk0) b11 dX1_takeRoute_150 ?_
            refine at_iadd (pc := 151) C dX1_takeRoute_151 ?_
            refine at_dup2 (pc := 152) C dX1_takeRoute_152 rfl rfl ?_
            obtain ⟨b15, hF⟩ := inb_some hF
            refine at_iaload (pc := 153) C (kf1_4 hk0) b15 dX1_takeRoute_153 ?_
            refine at_iload_n (pc := 154) C 2 dX1_takeRoute_154 rfl rfl ?_
            refine at_isub (pc := 155) C dX1_takeRoute_155 ?_
            refine at_iastore (pc := 156) C (kf1_4 hk0) b15 dX1_takeRoute_156 ?_
            exact J157 v3 (upI σ (v0 + 5) (ja (jm (σ.1 (v0 + 8) (ja v3 1)) 12) (σ.1 (v0 + 8) v3)) (js (σ.1 (v0 + 5) (ja (jm (σ.1 (v0 + 8) (ja v3 1)) 12) (σ.1 (v0 + 8) v3))) v2)) h3 (OK_up (k := (v0 + 5)) (j := (ja (jm (σ.1 (v0 + 8) (ja v3 1)) 12) (σ.1 (v0 + 8) v3))) ok (js_R (σ.1 (v0 + 5) (ja (jm (σ.1 (v0 + 8) (ja v3 1)) 12) (σ.1 (v0 + 8) v3))) v2)) hF
          · have hF := (if_neg c13).symm.trans hF
            refine at_aload_n (pc := 100) C 0 dX1_takeRoute_100 rfl rfl ?_
            refine at_getr (pc := 101) C 5 fw_1_24 hk0 rfl (Nat.le_of_ble_eq_true rfl) rfl rfl dX1_takeRoute_101 ?_
            refine at_aload_n (pc := 104) C 0 dX1_takeRoute_104 rfl rfl ?_
            refine at_getr (pc := 105) C 8 fw_1_33 hk0 rfl (Nat.le_of_ble_eq_true rfl) rfl rfl dX1_takeRoute_105 ?_
            refine at_iload_n (pc := 108) C 3 dX1_takeRoute_108 rfl rfl ?_
            refine at_iaload (pc := 109) C (kf1_7 hk0) b11 dX1_takeRoute_109 ?_
            refine at_bipush (pc := 110) C dX1_takeRoute_110 (by decide) ?_
            refine at_imul (pc := 112) C dX1_takeRoute_112 ?_
            refine at_aload_n (pc := 113) C 0 dX1_takeRoute_113 rfl rfl ?_
            refine at_getr (pc := 114) C 8 fw_1_33 hk0 rfl (Nat.le_of_ble_eq_true rfl) rfl rfl dX1_takeRoute_114 ?_
            refine at_iload_n (pc := 117) C 3 dX1_takeRoute_117 rfl rfl ?_
            refine at_iconst (pc := 118) C dX1_takeRoute_118 ?_
            refine at_iadd (pc := 119) C dX1_takeRoute_119 ?_
            obtain ⟨b16, hF⟩ := inb_some hF
            refine at_iaload (pc := 120) C (kf1_7 hk0) b16 dX1_takeRoute_120 ?_
            refine at_iadd (pc := 121) C dX1_takeRoute_121 ?_
            refine at_dup2 (pc := 122) C dX1_takeRoute_122 rfl rfl ?_
            obtain ⟨b17, hF⟩ := inb_some hF
            refine at_iaload (pc := 123) C (kf1_4 hk0) b17 dX1_takeRoute_123 ?_
            refine at_iload_n (pc := 124) C 2 dX1_takeRoute_124 rfl rfl ?_
            refine at_iadd (pc := 125) C dX1_takeRoute_125 ?_
            refine at_iastore (pc := 126) C (kf1_4 hk0) b17 dX1_takeRoute_126 ?_
            refine at_goto (pc := 127) (tgt := 157) C dX1_takeRoute_127 rfl ?_
            exact J157 v3 (upI σ (v0 + 5) (ja (jm (σ.1 (v0 + 8) v3) 12) (σ.1 (v0 + 8) (ja v3 1))) (ja (σ.1 (v0 + 5) (ja (jm (σ.1 (v0 + 8) v3) 12) (σ.1 (v0 + 8) (ja v3 1)))) v2)) h3 (OK_up (k := (v0 + 5)) (j := (ja (jm (σ.1 (v0 + 8) v3) 12) (σ.1 (v0 + 8) (ja v3 1)))) ok (ja_R (σ.1 (v0 + 5) (ja (jm (σ.1 (v0 + 8) v3) 12) (σ.1 (v0 + 8) (ja v3 1)))) v2)) hF
      refine at_sub (lv' := [(0, vr g v0), (1, vi v1), (2, vi v2), (3, vi 0)]) [1, 2, 3, 0] rfl ?_
      exact L76 v0 v1 v2 0 σ hk0 h1 h2 (isB.r (Or.inl rfl)) ok hF
    refine at_iload_n (pc := 35) C 3 dX1_takeRoute_35 rfl rfl ?_
    refine at_iconst (pc := 36) C dX1_takeRoute_36 ?_
    refine at_iadd (pc := 37) C dX1_takeRoute_37 ?_
    refine at_aload_n (pc := 38) C 0 dX1_takeRoute_38 rfl rfl ?_
    refine at_geti (pc := 39) (jz := 9) C fw_1_39 hk0 rfl (Nat.le_of_ble_eq_true rfl) rfl rfl dX1_takeRoute_39 ?_
    refine at_icmp_ge (pc := 42) (tgt := 74) C (ja_R v3 1) (ok v0 9) dX1_takeRoute_42 rfl (fun c18 => ?_) (fun c18 => ?_)
    · have hF := (if_pos c18).symm.trans hF
      refine at_sub (lv' := [(0, vr g v0), (1, vi v1), (2, vi v2)]) [0, 1, 2] rfl ?_
      exact J74 v0 v1 v2 σ hk0 h1 h2 ok hF
    · have hF := (if_neg c18).symm.trans hF
      refine at_iload_n (pc := 45) C 2 dX1_takeRoute_45 rfl rfl ?_
      refine at_aload_n (pc := 46) C 0 dX1_takeRoute_46 rfl rfl ?_
      refine at_aload_n (pc := 47) C 0 dX1_takeRoute_47 rfl rfl ?_
      refine at_getr (pc := 48) C 8 fw_1_33 hk0 rfl (Nat.le_of_ble_eq_true rfl) rfl rfl dX1_takeRoute_48 ?_
      refine at_iload_n (pc := 51) C 3 dX1_takeRoute_51 rfl rfl ?_
      obtain ⟨b19, hF⟩ := inb_some hF
      refine at_iaload (pc := 52) C (kf1_7 hk0) b19 dX1_takeRoute_52 ?_
      refine at_aload_n (pc := 53) C 0 dX1_takeRoute_53 rfl rfl ?_
      refine at_getr (pc := 54) C 8 fw_1_33 hk0 rfl (Nat.le_of_ble_eq_true rfl) rfl rfl dX1_takeRoute_54 ?_
      refine at_iload_n (pc := 57) C 3 dX1_takeRoute_57 rfl rfl ?_
      refine at_iconst (pc := 58) C dX1_takeRoute_58 ?_
      refine at_iadd (pc := 59) C dX1_takeRoute_59 ?_
      obtain ⟨b20, hF⟩ := inb_some hF
      refine at_iaload (pc := 60) C (kf1_7 hk0) b20 dX1_takeRoute_60 ?_
      obtain ⟨q21, eq21, hF⟩ := bind_some' hF
      refine at_callV (pc := 61) (ci := 1) C (c_X1_passable l g N v0 (σ.1 (v0 + 8) v3) (σ.1 (v0 + 8) (ja v3 1)) σ q21 hk0 (ok (v0 + 8) v3) (ok (v0 + 8) (ja v3 1)) ok eq21) kv_X1_passable w988 hk0 rfl rfl rfl rfl (Nat.le_of_ble_eq_true rfl) ⟨rfl, rfl, (Nat.le_of_ble_eq_true rfl), (Nat.le_of_ble_eq_true rfl)⟩ dX1_takeRoute_61 (fun tq21 okq21 => ?_)
      refine at_mmin (pc := 64) C km_min w996 h2 tq21 ⟨(Nat.le_of_ble_eq_true rfl), (Nat.le_of_ble_eq_true rfl)⟩ dX1_takeRoute_64 ?_
      refine at_istore_n (pc := 67) (lv' := [(2, vi (jmin v2 q21)), (0, vr g v0), (1, vi v1), (3, vi v3)]) C dX1_takeRoute_67 rfl (Nat.le_of_ble_eq_true rfl) rfl ?_
      refine at_iinc (pc := 68) (lv' := [(3, vi (ja v3 1)), (2, vi (jmin v2 q21)), (0, vr g v0), (1, vi v1)]) C 3 dX1_takeRoute_68 rfl (Nat.le_of_ble_eq_true rfl) rfl ?_
      refine at_goto (pc := 71) (tgt := 35) C dX1_takeRoute_71 rfl ?_
      refine at_sub (lv' := [(0, vr g v0), (1, vi v1), (2, vi (jmin v2 q21)), (3, vi (ja v3 1))]) [2, 3, 1, 0] rfl ?_
      exact ih35 _ hF (jmin_R h2 tq21) (ja_R v3 1)
  refine at_sub (lv' := [(0, vr g v0), (1, vi (σ.1 (v0 + 8) (js (σ.1 v0 9) 1))), (2, vi (jmin (σ.1 (v0 + 2) (σ.1 (v0 + 8) 0)) (σ.1 (v0 + 2) (σ.1 (v0 + 8) (js (σ.1 v0 9) 1))))), (3, vi 0)]) [3, 2, 1, 0] rfl ?_
  exact L35 v0 (σ.1 (v0 + 8) (js (σ.1 v0 9) 1)) (jmin (σ.1 (v0 + 2) (σ.1 (v0 + 8) 0)) (σ.1 (v0 + 2) (σ.1 (v0 + 8) (js (σ.1 v0 9) 1)))) 0 σ hk0 (ok (v0 + 8) (js (σ.1 v0 9) 1)) (jmin_R (ok (v0 + 2) (σ.1 (v0 + 8) 0)) (ok (v0 + 2) (σ.1 (v0 + 8) (js (σ.1 v0 9) 1)))) (isB.r (Or.inl rfl)) ok hF
