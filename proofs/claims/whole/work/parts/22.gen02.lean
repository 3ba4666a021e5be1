abbrev rm_X5_takenOf : Room := { frames := 0, cells := 0, slots := 0, locals := 0 }
def F_X5_takenOf_J41 (N : Nat) (nx4 : (Int × Int) → Option (Int)) (v0 : Nat) (v1 : Int) (v2 : Int) (v3 : Int) (σ : Sto) : Option (Int) :=
  nx4 (v2, (ja v3 1))
def F_X5_takenOf_J32 (N : Nat) (nx4 : (Int × Int) → Option (Int)) (v0 : Nat) (v1 : Int) (v2 : Int) (v3 : Int) (σ : Sto) : Option (Int) :=
  inb v3 30 (F_X5_takenOf_J41 N nx4 v0 v1 (ja v2 (σ.1 (v0 + 3) v3)) v3 σ)
def F_X5_takenOf_B4 (N : Nat) (nx4 : (Int × Int) → Option (Int)) (v0 : Nat) (v1 : Int) (v2 : Int) (v3 : Int) (σ : Sto) : Option (Int) :=
  if (σ.1 v0 3) ≤ v3 then (some v2) else (inb v3 30 (if (σ.1 (v0 + 1) v3) = v1 then (F_X5_takenOf_J32 N nx4 v0 v1 v2 v3 σ) else (if (σ.1 (v0 + 2) v3) = v1 then (F_X5_takenOf_J32 N nx4 v0 v1 v2 v3 σ) else (F_X5_takenOf_J41 N nx4 v0 v1 v2 v3 σ))))
def F_X5_takenOf (N : Nat) (v0 : Nat) (v1 : Int) (σ : Sto) : Option (Int) :=
  loopK (fun q nx4 => F_X5_takenOf_B4 N  nx4 v0 v1 q.1 q.2 σ) N (0, 0)
set_option maxHeartbeats 4000000 in
set_option maxRecDepth 100000 in
theorem c_X5_takenOf (l : Launch) (g : Geo) (N : Nat) (v0 : Nat) (v1 : Int) (σ : Sto) (res : Int) (hk0 : knd v0 = (15, 4)) (h1 : inR v1) (ok : OK σ) (hF : F_X5_takenOf N v0 v1 σ = some res) : MtI l g yX5_takenOf cX5_takenOf 4 (some .int) rm_X5_takenOf [vr g v0, vi v1] σ res σ inR := by
  intro sz
  refine Met.ofAt (own := RX5) (QQ := fun z => QI g z res σ inR) (by decide +kernel) (Nat.le_of_ble_eq_true rfl) rfl ?_
  intro p e s m args below meth c C hr hlk
  show At p l e rm_X5_takenOf s m args below meth c 0 0 g 4 (MQ below (QI g s.heap.size res σ inR) args s 0 0 (AA g s.heap.size)) 0 [(0, vr g v0), (1, vi v1)] [] σ
  unfold F_X5_takenOf at hF
  refine at_iconst (pc := 0) C dX5_takenOf_0 ?_
  refine at_istore_n (pc := 1) (lv' := [(2, vi 0), (0, vr g v0), (1, vi v1)]) C dX5_takenOf_1 rfl (Nat.le_of_ble_eq_true rfl) rfl ?_
  refine at_iconst (pc := 2) C dX5_takenOf_2 ?_
  refine at_istore_n (pc := 3) (lv' := [(3, vi 0), (2, vi 0), (0, vr g v0), (1, vi v1)]) C dX5_takenOf_3 rfl (Nat.le_of_ble_eq_true rfl) rfl ?_
  have L4 : ∀ (v0 : Nat) (v1 : Int) (v2 : Int) (v3 : Int), knd v0 = (15, 4) → inR v1 → inR v2 → inR v3 → loopK (fun q nx4 => F_X5_takenOf_B4 N  nx4 v0 v1 q.1 q.2 σ) N (v2, v3) = some res → At p l e rm_X5_takenOf s m args below meth c 0 0 g 4 (MQ below (QI g s.heap.size res σ inR) args s 0 0 (AA g s.heap.size)) 4 [(0, vr g v0), (1, vi v1), (2, vi v2), (3, vi v3)] [] σ := by
    intro v0 v1 v2 v3 hk0 h1 h2 h3 hF
    refine loopK_ind (res := res) (P := fun (q : Int × Int) => inR q.1 → inR q.2 → At p l e rm_X5_takenOf s m args below meth c 0 0 g 4 (MQ below (QI g s.heap.size res σ inR) args s 0 0 (AA g s.heap.size)) 4 [(0, vr g v0), (1, vi v1), (2, vi q.1), (3, vi q.2)] [] σ) ?_ N _ hF h2 h3
    intro nx4 q ih4 hF
    obtain ⟨v2, v3⟩ := q
    intro h2 h3
    have hF : F_X5_takenOf_B4 N  nx4 v0 v1 v2 v3 σ = some res := hF
    unfold F_X5_takenOf_B4 at hF
    refine at_iload_n (pc := 4) C 3 dX5_takenOf_4 rfl rfl ?_
    refine at_aload_n (pc := 5) C 0 dX5_takenOf_5 rfl rfl ?_
    refine at_geti (pc := 6) (jz := 3) C fw_5_21 hk0 rfl (Nat.le_of_ble_eq_true rfl) rfl rfl dX5_takenOf_6 ?_
    refine at_icmp_ge (pc := 9) (tgt := 47) C h3 (ok v0 3) dX5_takenOf_9 rfl (fun c1 => ?_) (fun c1 => ?_)
    · have hF := (if_pos c1).symm.trans hF
      refine at_iload_n (pc := 47) C 2 dX5_takenOf_47 rfl rfl ?_
      obtain rfl := Option.some.inj hF
      exact at_iret (pc := 48) C hr hlk h2 ok dX5_takenOf_48
    · have hF := (if_neg c1).symm.trans hF
      have J41 : ∀ (v2 : Int) (v3 : Int), inR v2 → inR v3 → F_X5_takenOf_J41 N nx4 v0 v1 v2 v3 σ = some res → At p l e rm_X5_takenOf s m args below meth c 0 0 g 4 (MQ below (QI g s.heap.size res σ inR) args s 0 0 (AA g s.heap.size)) 41 [(0, vr g v0), (1, vi v1), (2, vi v2), (3, vi v3)] [] σ := by
        intro v2 v3 h2 h3 hF
        unfold F_X5_takenOf_J41 at hF
        refine at_iinc (pc := 41) (lv' := [(3, vi (ja v3 1)), (0, vr g v0), (1, vi v1), (2, vi v2)]) C 3 dX5_takenOf_41 rfl (Nat.le_of_ble_eq_true rfl) rfl ?_
        refine at_goto (pc := 44) (tgt := 4) C dX5_takenOf_44 rfl ?_
        refine at_sub (lv' := [(0, vr g v0), (1, vi v1), (2, vi v2), (3, vi (ja v3 1))]) [1, 2, 3, 0] rfl ?_
        exact ih4 _ hF h2 (ja_R v3 1)
      have J32 : ∀ (v2 : Int) (v3 : Int), inR v2 → inR v3 → F_X5_takenOf_J32 N nx4 v0 v1 v2 v3 σ = some res → At p l e rm_X5_takenOf s m args below meth c 0 0 g 4 (MQ below (QI g s.heap.size res σ inR) args s 0 0 (AA g s.heap.size)) 32 [(0, vr g v0), (1, vi v1), (2, vi v2), (3, vi v3)] [] σ := by
        intro v2 v3 h2 h3 hF
        unfold F_X5_takenOf_J32 at hF
        refine at_iload_n (pc := 32) C 2 dX5_takenOf_32 rfl rfl ?_
        refine at_aload_n (pc := 33) C 0 dX5_takenOf_33 rfl rfl ?_
        refine at_getr (pc := 34) C 3 fw_5_18 hk0 rfl (Nat.le_of_ble_eq_true rfl) rfl rfl dX5_takenOf_34 ?_
        refine at_iload_n (pc := 37) C 3 dX5_takenOf_37 rfl rfl ?_
        obtain ⟨b2, hF⟩ := inb_some hF
        refine at_iaload (pc := 38) C (kf5_2 hk0) b2 dX5_takenOf_38 ?_
        refine at_iadd (pc := 39) C dX5_takenOf_39 ?_
        refine at_istore_n (pc := 40) (lv' := [(2, vi (ja v2 (σ.1 (v0 + 3) v3))), (0, vr g v0), (1, vi v1), (3, vi v3)]) C dX5_takenOf_40 rfl (Nat.le_of_ble_eq_true rfl) rfl ?_
        refine at_sub (lv' := [(0, vr g v0), (1, vi v1), (2, vi (ja v2 (σ.1 (v0 + 3) v3))), (3, vi v3)]) [1, 2, 0, 3] rfl ?_
        exact J41 (ja v2 (σ.1 (v0 + 3) v3)) v3 (ja_R v2 (σ.1 (v0 + 3) v3)) h3 hF
      refine at_aload_n (pc := 12) C 0 dX5_takenOf_12 rfl rfl ?_
      refine at_getr (pc := 13) C 1 fw_5_9 hk0 rfl (Nat.le_of_ble_eq_true rfl) rfl rfl dX5_takenOf_13 ?_
      refine at_iload_n (pc := 16) C 3 dX5_takenOf_16 rfl rfl ?_
      obtain ⟨b3, hF⟩ := inb_some hF
      refine at_iaload (pc := 17) C (kf5_0 hk0) b3 dX5_takenOf_17 ?_
      refine at_iload_n (pc := 18) C 1 dX5_takenOf_18 rfl rfl ?_
      refine at_icmp_eq (pc := 19) (tgt := 32) C (ok (v0 + 1) v3) h1 dX5_takenOf_19 rfl (fun c4 => ?_) (fun c4 => ?_)
      · have hF := (if_pos c4).symm.trans hF
        exact J32 v2 v3 h2 h3 hF
      · have hF := (if_neg c4).symm.trans hF
        refine at_aload_n (pc := 22) C 0 dX5_takenOf_22 rfl rfl ?_
        refine at_getr (pc := 23) C 2 fw_5_15 hk0 rfl (Nat.le_of_ble_eq_true rfl) rfl rfl dX5_takenOf_23 ?_
        refine at_iload_n (pc := 26) C 3 dX5_takenOf_26 rfl rfl ?_
        refine at_iaload (pc := 27) C (kf5_1 hk0) b3 dX5_takenOf_27 ?_
        refine at_iload_n (pc := 28) C 1 dX5_takenOf_28 rfl rfl ?_
        refine at_icmp_ne (pc := 29) (tgt := 41) C (ok (v0 + 2) v3) h1 dX5_takenOf_29 rfl (fun c5 => ?_) (fun c5 => ?_)
        · have hF := (if_neg c5).symm.trans hF
          exact J41 v2 v3 h2 h3 hF
        · have hF := (if_pos c5).symm.trans hF
          exact J32 v2 v3 h2 h3 hF
  refine at_sub (lv' := [(0, vr g v0), (1, vi v1), (2, vi 0), (3, vi 0)]) [2, 3, 1, 0] rfl ?_
  exact L4 v0 v1 0 0 hk0 h1 (isB.r (Or.inl rfl)) (isB.r (Or.inl rfl)) hF
abbrev rm_X5_touches : Room := { frames := 1, cells := 0, slots := 0, locals := 23 }
def F_X5_touches (N : Nat) (v0 : Nat) (v1 : Int) (σ : Sto) : Option (Int) :=
  (F_X5_takenOf N v0 v1 σ).bind (fun q1 => if q1 ≤ 0 then (some 0) else (some 1))
set_option maxHeartbeats 4000000 in
set_option maxRecDepth 100000 in
theorem c_X5_touches (l : Launch) (g : Geo) (N : Nat) (v0 : Nat) (v1 : Int) (σ : Sto) (res : Int) (hk0 : knd v0 = (15, 4)) (h1 : inR v1) (ok : OK σ) (hF : F_X5_touches N v0 v1 σ = some res) : MtI l g yX5_touches cX5_touches 2 (some .boolean) rm_X5_touches [vr g v0, vi v1] σ res σ isB := by
  intro sz
  refine Met.ofAt (own := RX5) (QQ := fun z => QI g z res σ isB) (by decide +kernel) (Nat.le_of_ble_eq_true rfl) rfl ?_
  intro p e s m args below meth c C hr hlk
  show At p l e rm_X5_touches s m args below meth c 0 0 g 2 (MQ below (QI g s.heap.size res σ isB) args s 0 0 (AA g s.heap.size)) 0 [(0, vr g v0), (1, vi v1)] [] σ
  unfold F_X5_touches at hF
  refine at_aload_n (pc := 0) C 0 dX5_touches_0 rfl rfl ?_
  refine at_iload_n (pc := 1) C 1 dX5_touches_1 rfl rfl ?_
  obtain ⟨q1, eq1, hF⟩ := bind_some' hF
  refine at_callV (pc := 2) (ci := 5) C (c_X5_takenOf l g N v0 v1 σ q1 hk0 h1 ok eq1) kv_X5_takenOf w1007 hk0 rfl rfl rfl rfl (Nat.le_of_ble_eq_true rfl) ⟨rfl, rfl, (Nat.le_of_ble_eq_true rfl), (Nat.le_of_ble_eq_true rfl)⟩ dX5_touches_2 (fun tq1 okq1 => ?_)
  refine at_if_le (pc := 5) (tgt := 12) C tq1 dX5_touches_5 rfl (fun c2 => ?_) (fun c2 => ?_)
  · have hF := (if_pos c2).symm.trans hF
    refine at_iconst (pc := 12) C dX5_touches_12 ?_
    obtain rfl := Option.some.inj hF
    exact at_zret (pc := 13) C hr hlk (Or.inl rfl) ok dX5_touches_13
  · have hF := (if_neg c2).symm.trans hF
    refine at_iconst (pc := 8) C dX5_touches_8 ?_
    refine at_goto (pc := 9) (tgt := 13) C dX5_touches_9 rfl ?_
    obtain rfl := Option.some.inj hF
    exact at_zret (pc := 13) C hr hlk (Or.inr rfl) ok dX5_touches_13
abbrev rm_X5_takenOn : Room := { frames := 0, cells := 0, slots := 0, locals := 0 }
def F_X5_takenOn_J46 (N : Nat) (nx5 : (Int × Int) → Option (Int)) (v0 : Nat) (v1 : Int) (v2 : Int) (v3 : Int) (v4 : Int) (σ : Sto) : Option (Int) :=
  nx5 (v3, (ja v4 1))
def F_X5_takenOn_B5 (N : Nat) (nx5 : (Int × Int) → Option (Int)) (v0 : Nat) (v1 : Int) (v2 : Int) (v3 : Int) (v4 : Int) (σ : Sto) : Option (Int) :=
  if (σ.1 v0 3) ≤ v4 then (some v3) else (inb v4 30 (if (σ.1 (v0 + 1) v4) = v1 then (if (σ.1 (v0 + 2) v4) = v2 then (F_X5_takenOn_J46 N nx5 v0 v1 v2 (ja v3 (σ.1 (v0 + 3) v4)) v4 σ) else (F_X5_takenOn_J46 N nx5 v0 v1 v2 v3 v4 σ)) else (F_X5_takenOn_J46 N nx5 v0 v1 v2 v3 v4 σ)))
def F_X5_takenOn (N : Nat) (v0 : Nat) (v1 : Int) (v2 : Int) (σ : Sto) : Option (Int) :=
  loopK (fun q nx5 => F_X5_takenOn_B5 N  nx5 v0 v1 v2 q.1 q.2 σ) N (0, 0)
set_option maxHeartbeats 4000000 in
set_option maxRecDepth 100000 in
theorem c_X5_takenOn (l : Launch) (g : Geo) (N : Nat) (v0 : Nat) (v1 : Int) (v2 : Int) (σ : Sto) (res : Int) (hk0 : knd v0 = (15, 4)) (h1 : inR v1) (h2 : inR v2) (ok : OK σ) (hF : F_X5_takenOn N v0 v1 v2 σ = some res) : MtI l g yX5_takenOn cX5_takenOn 5 (some .int) rm_X5_takenOn [vr g v0, vi v1, vi v2] σ res σ inR := by
  intro sz
  refine Met.ofAt (own := RX5) (QQ := fun z => QI g z res σ inR) (by decide +kernel) (Nat.le_of_ble_eq_true rfl) rfl ?_
  intro p e s m args below meth c C hr hlk
  show At p l e rm_X5_takenOn s m args below meth c 0 0 g 5 (MQ below (QI g s.heap.size res σ inR) args s 0 0 (AA g s.heap.size)) 0 [(0, vr g v0), (1, vi v1), (2, vi v2)] [] σ
  unfold F_X5_takenOn at hF
  refine at_iconst (pc := 0) C dX5_takenOn_0 ?_
  refine at_istore_n (pc := 1) (lv' := [(3, vi 0), (0, vr g v0), (1, vi v1), (2, vi v2)]) C dX5_takenOn_1 rfl (Nat.le_of_ble_eq_true rfl) rfl ?_
  refine at_iconst (pc := 2) C dX5_takenOn_2 ?_
  refine at_istore (pc := 3) (lv' := [(4, vi 0), (3, vi 0), (0, vr g v0), (1, vi v1), (2, vi v2)]) C dX5_takenOn_3 (Nat.le_of_ble_eq_true rfl) rfl ?_
  have L5 : ∀ (v0 : Nat) (v1 : Int) (v2 : Int) (v3 : Int) (v4 : Int), knd v0 = (15, 4) → inR v1 → inR v2 → inR v3 → inR v4 → loopK (fun q nx5 => F_X5_takenOn_B5 N  nx5 v0 v1 v2 q.1 q.2 σ) N (v3, v4) = some res → At p l e rm_X5_takenOn s m args below meth c 0 0 g 5 (MQ below (QI g s.heap.size res σ inR) args s 0 0 (AA g s.heap.size)) 5 [(0, vr g v0), (1, vi v1), (2, vi v2), (3, vi v3), (4, vi v4)] [] σ := by
    intro v0 v1 v2 v3 v4 hk0 h1 h2 h3 h4 hF
    refine loopK_ind (res := res) (P := fun (q : Int × Int) => inR q.1 → inR q.2 → At p l e rm_X5_takenOn s m args below meth c 0 0 g 5 (MQ below (QI g s.heap.size res σ inR) args s 0 0 (AA g s.heap.size)) 5 [(0, vr g v0), (1, vi v1), (2, vi v2), (3, vi q.1), (4, vi q.2)] [] σ) ?_ N _ hF h3 h4
    intro nx5 q ih5 hF
    obtain ⟨v3, v4⟩ := q
    intro h3 h4
    have hF : F_X5_takenOn_B5 N  nx5 v0 v1 v2 v3 v4 σ = some res := hF
    unfold F_X5_takenOn_B5 at hF
    refine at_iload (pc := 5) C 4 dX5_takenOn_5 rfl ?_
    refine at_aload_n (pc := 7) C 0 dX5_takenOn_7 rfl rfl ?_
    refine at_geti (pc := 8) (jz := 3) C fw_5_21 hk0 rfl (Nat.le_of_ble_eq_true rfl) rfl rfl dX5_takenOn_8 ?_
    refine at_icmp_ge (pc := 11) (tgt := 52) C h4 (ok v0 3) dX5_takenOn_11 rfl (fun c1 => ?_) (fun c1 => ?_)
    · have hF := (if_pos c1).symm.trans hF
      refine at_iload_n (pc := 52) C 3 dX5_takenOn_52 rfl rfl ?_
      obtain rfl := Option.some.inj hF
      exact at_iret (pc := 53) C hr hlk h3 ok dX5_takenOn_53
    · have hF := (if_neg c1).symm.trans hF
      have J46 : ∀ (v3 : Int) (v4 : Int), inR v3 → inR v4 → F_X5_takenOn_J46 N nx5 v0 v1 v2 v3 v4 σ = some res → At p l e rm_X5_takenOn s m args below meth c 0 0 g 5 (MQ below (QI g s.heap.size res σ inR) args s 0 0 (AA g s.heap.size)) 46 [(0, vr g v0), (1, vi v1), (2, vi v2), (3, vi v3), (4, vi v4)] [] σ := by
        intro v3 v4 h3 h4 hF
        unfold F_X5_takenOn_J46 at hF
        refine at_iinc (pc := 46) (lv' := [(4, vi (ja v4 1)), (0, vr g v0), (1, vi v1), (2, vi v2), (3, vi v3)]) C 4 dX5_takenOn_46 rfl (Nat.le_of_ble_eq_true rfl) rfl ?_
        refine at_goto (pc := 49) (tgt := 5) C dX5_takenOn_49 rfl ?_
        refine at_sub (lv' := [(0, vr g v0), (1, vi v1), (2, vi v2), (3, vi v3), (4, vi (ja v4 1))]) [1, 2, 3, 4, 0] rfl ?_
        exact ih5 _ hF h3 (ja_R v4 1)
      refine at_aload_n (pc := 14) C 0 dX5_takenOn_14 rfl rfl ?_
      refine at_getr (pc := 15) C 1 fw_5_9 hk0 rfl (Nat.le_of_ble_eq_true rfl) rfl rfl dX5_takenOn_15 ?_
      refine at_iload (pc := 18) C 4 dX5_takenOn_18 rfl ?_
      obtain ⟨b2, hF⟩ := inb_some hF
      refine at_iaload (pc := 20) C (kf5_0 hk0) b2 dX5_takenOn_20 ?_
      refine at_iload_n (pc := 21) C 1 dX5_takenOn_21 rfl rfl ?_
      refine at_icmp_ne (pc := 22) (tgt := 46) C (ok (v0 + 1) v4) h1 dX5_takenOn_22 rfl (fun c3 => ?_) (fun c3 => ?_)
      · have hF := (if_neg c3).symm.trans hF
        exact J46 v3 v4 h3 h4 hF
      · have hF := (if_pos c3).symm.trans hF
        refine at_aload_n (pc := 25) C 0 dX5_takenOn_25 rfl rfl ?_
        refine at_getr (pc := 26) C 2 fw_5_15 hk0 rfl (Nat.le_of_ble_eq_true rfl) rfl rfl dX5_takenOn_26 ?_
        refine at_iload (pc := 29) C 4 dX5_takenOn_29 rfl ?_
        refine at_iaload (pc := 31) C (kf5_1 hk0) b2 dX5_takenOn_31 ?_
        refine at_iload_n (pc := 32) C 2 dX5_takenOn_32 rfl rfl ?_
        refine at_icmp_ne (pc := 33) (tgt := 46) C (ok (v0 + 2) v4) h2 dX5_takenOn_33 rfl (fun c4 => ?_) (fun c4 => ?_)
        · have hF := (if_neg c4).symm.trans hF
          exact J46 v3 v4 h3 h4 hF
        · have hF := (if_pos c4).symm.trans hF
          refine at_iload_n (pc := 36) C 3 dX5_takenOn_36 rfl rfl ?_
          refine at_aload_n (pc := 37) C 0 dX5_takenOn_37 rfl rfl ?_
          refine at_getr (pc := 38) C 3 fw_5_18 hk0 rfl (Nat.le_of_ble_eq_true rfl) rfl rfl dX5_takenOn_38 ?_
          refine at_iload (pc := 41) C 4 dX5_takenOn_41 rfl ?_
          refine at_iaload (pc := 43) C (kf5_2 hk0) b2 dX5_takenOn_43 ?_
          refine at_iadd (pc := 44) C dX5_takenOn_44 ?_
          refine at_istore_n (pc := 45) (lv' := [(3, vi (ja v3 (σ.1 (v0 + 3) v4))), (0, vr g v0), (1, vi v1), (2, vi v2), (4, vi v4)]) C dX5_takenOn_45 rfl (Nat.le_of_ble_eq_true rfl) rfl ?_
          refine at_sub (lv' := [(0, vr g v0), (1, vi v1), (2, vi v2), (3, vi (ja v3 (σ.1 (v0 + 3) v4))), (4, vi v4)]) [1, 2, 3, 0, 4] rfl ?_
          exact J46 (ja v3 (σ.1 (v0 + 3) v4)) v4 (ja_R v3 (σ.1 (v0 + 3) v4)) h4 hF
  refine at_sub (lv' := [(0, vr g v0), (1, vi v1), (2, vi v2), (3, vi 0), (4, vi 0)]) [2, 3, 4, 1, 0] rfl ?_
  exact L5 v0 v1 v2 0 0 hk0 h1 h2 (isB.r (Or.inl rfl)) (isB.r (Or.inl rfl)) hF
abbrev rm_X6_boundOf : Room := { frames := 2, cells := 0, slots := 0, locals := 51 }
def F_X6_boundOf_J59 (N : Nat)   (σ : Sto) : Option (Int) :=
  some (-1)
def F_X6_boundOf (N : Nat) (v0 : Nat) (v1 : Nat) (v2 : Int) (v3 : Nat) (v4 : Int) (v5 : Int) (σ : Sto) : Option (Int) :=
  inb v4 12 (inb v5 12 ((F_X0_isOneMembers N v0 v4 v5 σ).bind (fun q3 => if q3 = 0 then ((F_X4_daysTogether N v1 (σ.1 (v0 + 4) v4) (σ.1 (v0 + 4) v5) (jmax (σ.1 v3 v4) (σ.1 v3 v5)) (jmin (σ.1 (v0 + 6) v4) (σ.1 (v0 + 6) v5)) σ).bind (fun q5 => grd (¬ (jmax 1 (ja (js (σ.1 (v0 + 6) v4) (σ.1 v3 v4)) 1)) = 0) inferInstance (grd (¬ (jmax 1 (ja (js (σ.1 (v0 + 6) v5) (σ.1 v3 v5)) 1)) = 0) inferInstance (some (jmin (jdiv (jm (jneg (σ.1 (v0 + 7) v4)) q5) (jmax 1 (ja (js (σ.1 (v0 + 6) v4) (σ.1 v3 v4)) 1))) (jdiv (jm (σ.1 (v0 + 7) v5) q5) (jmax 1 (ja (js (σ.1 (v0 + 6) v5) (σ.1 v3 v5)) 1)))))))) else (if v2 = 1 then (if (σ.1 v3 v5) ≤ (σ.1 (v0 + 6) v4) then (F_X6_boundOf_J59 N   σ) else (some (jmin (jneg (σ.1 (v0 + 7) v4)) (σ.1 (v0 + 7) v5)))) else (F_X6_boundOf_J59 N   σ)))))
set_option maxHeartbeats 4000000 in
set_option maxRecDepth 100000 in
theorem c_X6_boundOf (l : Launch) (g : Geo) (N : Nat) (v0 : Nat) (v1 : Nat) (v2 : Int) (v3 : Nat) (v4 : Int) (v5 : Int) (σ : Sto) (res : Int) (hk0 : knd v0 = (10, 14)) (hk1 : knd v1 = (14, 3)) (h2 : inR v2) (hk3 : knd v3 = (0, 12)) (h4 : inR v4) (h5 : inR v5) (ok : OK σ) (hF : F_X6_boundOf N v0 v1 v2 v3 v4 v5 σ = some res) : MtI l g yX6_boundOf cX6_boundOf 13 (some .int) rm_X6_boundOf [vr g v0, vr g v1, vi v2, vr g v3, vi v4, vi v5] σ res σ inR := by
  intro sz
  refine Met.ofAt (own := RX6) (QQ := fun z => QI g z res σ inR) (by decide +kernel) (Nat.le_of_ble_eq_true rfl) rfl ?_
  intro p e s m args below meth c C hr hlk
  show At p l e rm_X6_boundOf s m args below meth c 0 0 g 13 (MQ below (QI g s.heap.size res σ inR) args s 0 0 (AA g s.heap.size)) 0 [(0, vr g v0), (1, vr g v1), (2, vi v2), (3, vr g v3), (4, vi v4), (5, vi v5)] [] σ
  unfold F_X6_boundOf at hF
  refine at_aload_n (pc := 0) C 0 dX6_boundOf_0 rfl rfl ?_
  refine at_getr (pc := 1) C 7 fw_6_24 hk0 rfl (Nat.le_of_ble_eq_true rfl) rfl rfl dX6_boundOf_1 ?_
  refine at_iload (pc := 4) C 4 dX6_boundOf_4 rfl ?_
  obtain ⟨b1, hF⟩ := inb_some hF
  refine at_iaload (pc := 6) C (kf0_6 hk0) b1 dX6_boundOf_6 ?_
  refine at_ineg (pc := 7) C dX6_boundOf_7 ?_
  refine at_istore (pc := 8) (lv' := [(6, vi (jneg (σ.1 (v0 + 7) v4))), (0, vr g v0), (1, vr g v1), (2, vi v2), (3, vr g v3), (4, vi v4), (5, vi v5)]) C dX6_boundOf_8 (Nat.le_of_ble_eq_true rfl) rfl ?_
  refine at_aload_n (pc := 10) C 1 dX6_boundOf_10 rfl rfl ?_
  refine at_getr (pc := 11) C 7 fw_6_24 hk0 rfl (Nat.le_of_ble_eq_true rfl) rfl rfl dX6_boundOf_11 ?_
  refine at_iload (pc := 14) C 6 dX6_boundOf_14 rfl ?_
  obtain ⟨b2, hF⟩ := inb_some hF
  refine at_iaload (pc := 16) C (kf0_6 hk0) b2 dX6_boundOf_16 ?_
  refine at_istore (pc := 17) (lv' := [(7, vi (σ.1 (v0 + 7) v5)), (6, vi (jneg (σ.1 (v0 + 7) v4))), (0, vr g v0), (1, vr g v1), (2, vi v2), (3, vr g v3), (4, vi v4), (5, vi v5)]) C dX6_boundOf_17 (Nat.le_of_ble_eq_true rfl) rfl ?_
  refine at_aload_n (pc := 19) C 2 dX6_boundOf_19 rfl rfl ?_
  refine at_iload (pc := 20) C 6 dX6_boundOf_20 rfl ?_
  refine at_iload (pc := 22) C 7 dX6_boundOf_22 rfl ?_
  obtain ⟨q3, eq3, hF⟩ := bind_some' hF
  refine at_callV (pc := 24) (ci := 0) C (c_X0_isOneMembers l g N v0 v4 v5 σ q3 hk0 h4 h5 ok eq3) kv_X0_isOneMembers w813 hk0 rfl rfl rfl rfl (Nat.le_of_ble_eq_true rfl) ⟨rfl, rfl, (Nat.le_of_ble_eq_true rfl), (Nat.le_of_ble_eq_true rfl)⟩ dX6_boundOf_24 (fun tq3 okq3 => ?_)
  refine at_if_eq (pc := 27) (tgt := 61) C (isB.r tq3) dX6_boundOf_27 rfl (fun c4 => ?_) (fun c4 => ?_)
  · have hF := (if_pos c4).symm.trans hF
    refine at_aload_n (pc := 61) C 5 dX6_boundOf_61 rfl rfl ?_
    refine at_iload (pc := 62) C 6 dX6_boundOf_62 rfl ?_
    refine at_iaload (pc := 64) C hk3 b1 dX6_boundOf_64 ?_
    refine at_aload_n (pc := 65) C 5 dX6_boundOf_65 rfl rfl ?_
    refine at_iload (pc := 66) C 7 dX6_boundOf_66 rfl ?_
    refine at_iaload (pc := 68) C hk3 b2 dX6_boundOf_68 ?_
    refine at_mmax (pc := 69) C km_max w820 (ok v3 v4) (ok v3 v5) ⟨(Nat.le_of_ble_eq_true rfl), (Nat.le_of_ble_eq_true rfl)⟩ dX6_boundOf_69 ?_
    refine at_istore (pc := 72) (lv' := [(8, vi (jmax (σ.1 v3 v4) (σ.1 v3 v5))), (7, vi (σ.1 (v0 + 7) v5)), (6, vi (jneg (σ.1 (v0 + 7) v4))), (0, vr g v0), (1, vr g v1), (2, vi v2), (3, vr g v3), (4, vi v4), (5, vi v5)]) C dX6_boundOf_72 (Nat.le_of_ble_eq_true rfl) rfl ?_
    refine at_aload_n (pc := 74) C 3 dX6_boundOf_74 rfl rfl ?_
    refine at_getr (pc := 75) C 6 fw_6_39 hk0 rfl (Nat.le_of_ble_eq_true rfl) rfl rfl dX6_boundOf_75 ?_
    refine at_iload (pc := 78) C 7 dX6_boundOf_78 rfl ?_
    refine at_iaload (pc := 80) C (kf0_5 hk0) b1 dX6_boundOf_80 ?_
    refine at_aload_n (pc := 81) C 3 dX6_boundOf_81 rfl rfl ?_
    refine at_getr (pc := 82) C 6 fw_6_39 hk0 rfl (Nat.le_of_ble_eq_true rfl) rfl rfl dX6_boundOf_82 ?_
    refine at_iload (pc := 85) C 8 dX6_boundOf_85 rfl ?_
    refine at_iaload (pc := 87) C (kf0_5 hk0) b2 dX6_boundOf_87 ?_
    refine at_mmin (pc := 88) C km_min w817 (ok (v0 + 6) v4) (ok (v0 + 6) v5) ⟨(Nat.le_of_ble_eq_true rfl), (Nat.le_of_ble_eq_true rfl)⟩ dX6_boundOf_88 ?_
    refine at_istore (pc := 91) (lv' := [(9, vi (jmin (σ.1 (v0 + 6) v4) (σ.1 (v0 + 6) v5))), (8, vi (jmax (σ.1 v3 v4) (σ.1 v3 v5))), (7, vi (σ.1 (v0 + 7) v5)), (6, vi (jneg (σ.1 (v0 + 7) v4))), (0, vr g v0), (1, vr g v1), (2, vi v2), (3, vr g v3), (4, vi v4), (5, vi v5)]) C dX6_boundOf_91 (Nat.le_of_ble_eq_true rfl) rfl ?_
    refine at_aload_n (pc := 93) C 5 dX6_boundOf_93 rfl rfl ?_
    refine at_aload_n (pc := 94) C 4 dX6_boundOf_94 rfl rfl ?_
    refine at_getr (pc := 95) C 4 fw_6_50 hk0 rfl (Nat.le_of_ble_eq_true rfl) rfl rfl dX6_boundOf_95 ?_
    refine at_iload (pc := 98) C 8 dX6_boundOf_98 rfl ?_
    refine at_iaload (pc := 100) C (kf0_3 hk0) b1 dX6_boundOf_100 ?_
    refine at_aload_n (pc := 101) C 4 dX6_boundOf_101 rfl rfl ?_
    refine at_getr (pc := 102) C 4 fw_6_50 hk0 rfl (Nat.le_of_ble_eq_true rfl) rfl rfl dX6_boundOf_102 ?_
    refine at_iload (pc := 105) C 9 dX6_boundOf_105 rfl ?_
    refine at_iaload (pc := 107) C (kf0_3 hk0) b2 dX6_boundOf_107 ?_
    refine at_iload (pc := 108) C 1 dX6_boundOf_108 rfl ?_
    refine at_iload (pc := 110) C 0 dX6_boundOf_110 rfl ?_
    obtain ⟨q5, eq5, hF⟩ := bind_some' hF
    refine at_callV (pc := 112) (ci := 4) C (c_X4_daysTogether l g N v1 (σ.1 (v0 + 4) v4) (σ.1 (v0 + 4) v5) (jmax (σ.1 v3 v4) (σ.1 v3 v5)) (jmin (σ.1 (v0 + 6) v4) (σ.1 (v0 + 6) v5)) σ q5 hk1 (ok (v0 + 4) v4) (ok (v0 + 4) v5) (jmax_R (ok v3 v4) (ok v3 v5)) (jmin_R (ok (v0 + 6) v4) (ok (v0 + 6) v5)) ok eq5) kv_X4_daysTogether w823 hk1 rfl rfl rfl rfl (Nat.le_of_ble_eq_true rfl) ⟨rfl, rfl, (Nat.le_of_ble_eq_true rfl), (Nat.le_of_ble_eq_true rfl)⟩ dX6_boundOf_112 (fun tq5 okq5 => ?_)
    refine at_istore (pc := 115) (lv' := [(10, vi q5), (9, vi (jmin (σ.1 (v0 + 6) v4) (σ.1 (v0 + 6) v5))), (8, vi (jmax (σ.1 v3 v4) (σ.1 v3 v5))), (7, vi (σ.1 (v0 + 7) v5)), (6, vi (jneg (σ.1 (v0 + 7) v4))), (0, vr g v0), (1, vr g v1), (2, vi v2), (3, vr g v3), (4, vi v4), (5, vi v5)]) C dX6_boundOf_115 (Nat.le_of_ble_eq_true rfl) rfl ?_
    refine at_iconst (pc := 117) C dX6_boundOf_117 ?_
    refine at_aload_n (pc := 118) C 5 dX6_boundOf_118 rfl rfl ?_
    refine at_getr (pc := 119) C 6 fw_6_39 hk0 rfl (Nat.le_of_ble_eq_true rfl) rfl rfl dX6_boundOf_119 ?_
    refine at_iload (pc := 122) C 9 dX6_boundOf_122 rfl ?_
    refine at_iaload (pc := 124) C (kf0_5 hk0) b1 dX6_boundOf_124 ?_
    refine at_aload_n (pc := 125) C 8 dX6_boundOf_125 rfl rfl ?_
    refine at_iload (pc := 126) C 9 dX6_boundOf_126 rfl ?_
    refine at_iaload (pc := 128) C hk3 b1 dX6_boundOf_128 ?_
    refine at_isub (pc := 129) C dX6_boundOf_129 ?_
    refine at_iconst (pc := 130) C dX6_boundOf_130 ?_
    refine at_iadd (pc := 131) C dX6_boundOf_131 ?_
    refine at_mmax (pc := 132) C km_max w820 (isB.r (Or.inr rfl)) (ja_R (js (σ.1 (v0 + 6) v4) (σ.1 v3 v4)) 1) ⟨(Nat.le_of_ble_eq_true rfl), (Nat.le_of_ble_eq_true rfl)⟩ dX6_boundOf_132 ?_
    refine at_istore (pc := 135) (lv' := [(11, vi (jmax 1 (ja (js (σ.1 (v0 + 6) v4) (σ.1 v3 v4)) 1))), (10, vi q5), (9, vi (jmin (σ.1 (v0 + 6) v4) (σ.1 (v0 + 6) v5))), (8, vi (jmax (σ.1 v3 v4) (σ.1 v3 v5))), (7, vi (σ.1 (v0 + 7) v5)), (6, vi (jneg (σ.1 (v0 + 7) v4))), (0, vr g v0), (1, vr g v1), (2, vi v2), (3, vr g v3), (4, vi v4), (5, vi v5)]) C dX6_boundOf_135 (Nat.le_of_ble_eq_true rfl) rfl ?_
    refine at_iconst (pc := 137) C dX6_boundOf_137 ?_
    refine at_aload_n (pc := 138) C 6 dX6_boundOf_138 rfl rfl ?_
    refine at_getr (pc := 139) C 6 fw_6_39 hk0 rfl (Nat.le_of_ble_eq_true rfl) rfl rfl dX6_boundOf_139 ?_
    refine at_iload (pc := 142) C 11 dX6_boundOf_142 rfl ?_
    refine at_iaload (pc := 144) C (kf0_5 hk0) b2 dX6_boundOf_144 ?_
    refine at_aload_n (pc := 145) C 9 dX6_boundOf_145 rfl rfl ?_
    refine at_iload (pc := 146) C 11 dX6_boundOf_146 rfl ?_
    refine at_iaload (pc := 148) C hk3 b2 dX6_boundOf_148 ?_
    refine at_isub (pc := 149) C dX6_boundOf_149 ?_
    refine at_iconst (pc := 150) C dX6_boundOf_150 ?_
    refine at_iadd (pc := 151) C dX6_boundOf_151 ?_
    refine at_mmax (pc := 152) C km_max w820 (isB.r (Or.inr rfl)) (ja_R (js (σ.1 (v0 + 6) v5) (σ.1 v3 v5)) 1) ⟨(Nat.le_of_ble_eq_true rfl), (Nat.le_of_ble_eq_true rfl)⟩ dX6_boundOf_152 ?_
    refine at_istore (pc := 155) (lv' := [(12, vi (jmax 1 (ja (js (σ.1 (v0 + 6) v5) (σ.1 v3 v5)) 1))), (11, vi (jmax 1 (ja (js (σ.1 (v0 + 6) v4) (σ.1 v3 v4)) 1))), (10, vi q5), (9, vi (jmin (σ.1 (v0 + 6) v4) (σ.1 (v0 + 6) v5))), (8, vi (jmax (σ.1 v3 v4) (σ.1 v3 v5))), (7, vi (σ.1 (v0 + 7) v5)), (6, vi (jneg (σ.1 (v0 + 7) v4))), (0, vr g v0), (1, vr g v1), (2, vi v2), (3, vr g v3), (4, vi v4), (5, vi v5)]) C dX6_boundOf_155 (Nat.le_of_ble_eq_true rfl) rfl ?_
    refine at_iload (pc := 157) C 6 dX6_boundOf_157 rfl ?_
    refine at_iload (pc := 159) C 2 dX6_boundOf_159 rfl ?_
    refine at_imul (pc := 161) C dX6_boundOf_161 ?_
    refine at_iload (pc := 162) C 1 dX6_boundOf_162 rfl ?_
    obtain ⟨z6, hF⟩ := grd_some hF
    refine at_idiv (pc := 164) C dX6_boundOf_164 (jmax_R (isB.r (Or.inr rfl)) (ja_R (js (σ.1 (v0 + 6) v4) (σ.1 v3 v4)) 1)) z6 ?_
    refine at_iload (pc := 165) C 5 dX6_boundOf_165 rfl ?_
    refine at_iload (pc := 167) C 2 dX6_boundOf_167 rfl ?_
    refine at_imul (pc := 169) C dX6_boundOf_169 ?_
    refine at_iload (pc := 170) C 0 dX6_boundOf_170 rfl ?_
    obtain ⟨z7, hF⟩ := grd_some hF
    refine at_idiv (pc := 172) C dX6_boundOf_172 (jmax_R (isB.r (Or.inr rfl)) (ja_R (js (σ.1 (v0 + 6) v5) (σ.1 v3 v5)) 1)) z7 ?_
    refine at_mmin (pc := 173) C km_min w817 (jdiv_R (jm (jneg (σ.1 (v0 + 7) v4)) q5) (jmax 1 (ja (js (σ.1 (v0 + 6) v4) (σ.1 v3 v4)) 1))) (jdiv_R (jm (σ.1 (v0 + 7) v5) q5) (jmax 1 (ja (js (σ.1 (v0 + 6) v5) (σ.1 v3 v5)) 1))) ⟨(Nat.le_of_ble_eq_true rfl), (Nat.le_of_ble_eq_true rfl)⟩ dX6_boundOf_173 ?_
    obtain rfl := Option.some.inj hF
    exact at_iret (pc := 176) C hr hlk (jmin_R (jdiv_R (jm (jneg (σ.1 (v0 + 7) v4)) q5) (jmax 1 (ja (js (σ.1 (v0 + 6) v4) (σ.1 v3 v4)) 1))) (jdiv_R (jm (σ.1 (v0 + 7) v5) q5) (jmax 1 (ja (js (σ.1 (v0 + 6) v5) (σ.1 v3 v5)) 1)))) ok dX6_boundOf_176
  · have hF := (if_neg c4).symm.trans hF
    have J59 : F_X6_boundOf_J59 N   σ = some res → At p l e rm_X6_boundOf s m args below meth c 0 0 g 13 (MQ below (QI g s.heap.size res σ inR) args s 0 0 (AA g s.heap.size)) 59 [] [] σ := by
      intro   hF
      unfold F_X6_boundOf_J59 at hF
      refine at_iconst (pc := 59) C dX6_boundOf_59 ?_
      obtain rfl := Option.some.inj hF
      exact at_iret (pc := 60) C hr hlk (show inR (-1) from ⟨by decide, by decide⟩) ok dX6_boundOf_60
    refine at_iload_n (pc := 30) C 4 dX6_boundOf_30 rfl rfl ?_
    refine at_iconst (pc := 31) C dX6_boundOf_31 ?_
    refine at_icmp_ne (pc := 32) (tgt := 59) C h2 (isB.r (Or.inr rfl)) dX6_boundOf_32 rfl (fun c8 => ?_) (fun c8 => ?_)
    · have hF := (if_neg c8).symm.trans hF
      refine at_sub (lv' := []) [] rfl ?_
      exact J59  hF
    · have hF := (if_pos c8).symm.trans hF
      refine at_aload_n (pc := 35) C 5 dX6_boundOf_35 rfl rfl ?_
      refine at_iload (pc := 36) C 7 dX6_boundOf_36 rfl ?_
      refine at_iaload (pc := 38) C hk3 b2 dX6_boundOf_38 ?_
      refine at_aload_n (pc := 39) C 2 dX6_boundOf_39 rfl rfl ?_
      refine at_getr (pc := 40) C 6 fw_6_39 hk0 rfl (Nat.le_of_ble_eq_true rfl) rfl rfl dX6_boundOf_40 ?_
      refine at_iload (pc := 43) C 6 dX6_boundOf_43 rfl ?_
      refine at_iaload (pc := 45) C (kf0_5 hk0) b1 dX6_boundOf_45 ?_
      refine at_icmp_le (pc := 46) (tgt := 59) C (ok v3 v5) (ok (v0 + 6) v4) dX6_boundOf_46 rfl (fun c9 => ?_) (fun c9 => ?_)
      · have hF := (if_pos c9).symm.trans hF
        refine at_sub (lv' := []) [] rfl ?_
        exact J59  hF
      · have hF := (if_neg c9).symm.trans hF
        refine at_iload (pc := 49) C 1 dX6_boundOf_49 rfl ?_
        refine at_iload (pc := 51) C 0 dX6_boundOf_51 rfl ?_
        refine at_mmin (pc := 53) C km_min w817 (jneg_R (σ.1 (v0 + 7) v4)) (ok (v0 + 7) v5) ⟨(Nat.le_of_ble_eq_true rfl), (Nat.le_of_ble_eq_true rfl)⟩ dX6_boundOf_53 ?_
        refine at_goto (pc := 56) (tgt := 60) C dX6_boundOf_56 rfl ?_
        obtain rfl := Option.some.inj hF
        exact at_iret (pc := 60) C hr hlk (jmin_R (jneg_R (σ.1 (v0 + 7) v4)) (ok (v0 + 7) v5)) ok dX6_boundOf_60
abbrev rm_X6_fill : Room := { frames := 3, cells := 0, slots := 0, locals := 83 }
def F_X6_fill_J110 (N : Nat) (nx3 : (Int × Sto) → Option (Sto)) (v0 : Nat) (v1 : Nat) (v2 : Nat) (v3 : Int) (v4 : Nat) (v5 : Int) (σ : Sto) : Option (Sto) :=
  nx3 ((ja v5 1), σ)
def F_X6_fill_J104 (N : Nat) (nx3 : (Int × Sto) → Option (Sto)) (nx15 : (Int × Sto) → Option (Sto)) (v0 : Nat) (v1 : Nat) (v2 : Nat) (v3 : Int) (v4 : Nat) (v5 : Int) (v6 : Int) (σ : Sto) : Option (Sto) :=
  nx15 ((ja v6 1), σ)
def F_X6_fill_B15 (N : Nat) (nx3 : (Int × Sto) → Option (Sto)) (nx15 : (Int × Sto) → Option (Sto)) (v0 : Nat) (v1 : Nat) (v2 : Nat) (v3 : Int) (v4 : Nat) (v5 : Int) (v6 : Int) (σ : Sto) : Option (Sto) :=
  if (σ.1 v1 9) ≤ v6 then (F_X6_fill_J110 N nx3 v0 v1 v2 v3 v4 v5 σ) else (inb (ja (jm v5 12) v6) 144 (inb v5 12 (if 0 ≤ ((upI (upI σ (v0 + 1) (ja (jm v5 12) v6) (-1)) (v0 + 2) (ja (jm v5 12) v6) 0).1 (v1 + 7) v5) then (F_X6_fill_J104 N nx3 nx15 v0 v1 v2 v3 v4 v5 v6 (upI (upI σ (v0 + 1) (ja (jm v5 12) v6) (-1)) (v0 + 2) (ja (jm v5 12) v6) 0)) else (inb v6 12 (if ((upI (upI σ (v0 + 1) (ja (jm v5 12) v6) (-1)) (v0 + 2) (ja (jm v5 12) v6) 0).1 (v1 + 7) v6) ≤ 0 then (F_X6_fill_J104 N nx3 nx15 v0 v1 v2 v3 v4 v5 v6 (upI (upI σ (v0 + 1) (ja (jm v5 12) v6) (-1)) (v0 + 2) (ja (jm v5 12) v6) 0)) else ((F_X6_boundOf N v1 v2 v3 v4 v5 v6 (upI (upI σ (v0 + 1) (ja (jm v5 12) v6) (-1)) (v0 + 2) (ja (jm v5 12) v6) 0)).bind (fun q8 => (F_X0_priceOf N v1 v5 v6 (upI (upI (upI σ (v0 + 1) (ja (jm v5 12) v6) (-1)) (v0 + 2) (ja (jm v5 12) v6) 0) (v0 + 1) (ja (jm v5 12) v6) q8)).bind (fun q9 => F_X6_fill_J104 N nx3 nx15 v0 v1 v2 v3 v4 v5 v6 (upI (upI (upI (upI σ (v0 + 1) (ja (jm v5 12) v6) (-1)) (v0 + 2) (ja (jm v5 12) v6) 0) (v0 + 1) (ja (jm v5 12) v6) q8) (v0 + 2) (ja (jm v5 12) v6) q9)))))))))
def F_X6_fill_B3 (N : Nat) (nx3 : (Int × Sto) → Option (Sto)) (v0 : Nat) (v1 : Nat) (v2 : Nat) (v3 : Int) (v4 : Nat) (v5 : Int) (σ : Sto) : Option (Sto) :=
  if (σ.1 v1 9) ≤ v5 then (some σ) else (loopK (fun q nx15 => F_X6_fill_B15 N nx3 nx15 v0 v1 v2 v3 v4 v5 q.1 q.2) N (0, σ))
def F_X6_fill (N : Nat) (v0 : Nat) (v1 : Nat) (v2 : Nat) (v3 : Int) (v4 : Nat) (σ : Sto) : Option (Sto) :=
  loopK (fun q nx3 => F_X6_fill_B3 N  nx3 v0 v1 v2 v3 v4 q.1 q.2) N (0, σ)
set_option maxHeartbeats 4000000 in
set_option maxRecDepth 100000 in
theorem c_X6_fill (l : Launch) (g : Geo) (N : Nat) (v0 : Nat) (v1 : Nat) (v2 : Nat) (v3 : Int) (v4 : Nat) (σ : Sto) (res : Sto) (hk0 : knd v0 = (16, 2)) (hk1 : knd v1 = (10, 14)) (hk2 : knd v2 = (14, 3)) (h3 : inR v3) (hk4 : knd v4 = (0, 12)) (ok : OK σ) (hF : F_X6_fill N v0 v1 v2 v3 v4 σ = some res) : MtV l g yX6_fill cX6_fill 8 none rm_X6_fill [vr g v0, vr g v1, vr g v2, vi v3, vr g v4] σ res := by
  intro sz
  refine Met.ofAt (own := RX6) (QQ := fun z => QV g z res) (by decide +kernel) (Nat.le_of_ble_eq_true rfl) rfl ?_
  intro p e s m args below meth c C hr hlk
  show At p l e rm_X6_fill s m args below meth c 0 0 g 8 (MQ below (QV g s.heap.size res) args s 0 0 (AA g s.heap.size)) 0 [(0, vr g v0), (1, vr g v1), (2, vr g v2), (3, vi v3), (4, vr g v4)] [] σ
  unfold F_X6_fill at hF
  refine at_iconst (pc := 0) C dX6_fill_0 ?_
  refine at_istore (pc := 1) (lv' := [(5, vi 0), (0, vr g v0), (1, vr g v1), (2, vr g v2), (3, vi v3), (4, vr g v4)]) C dX6_fill_1 (Nat.le_of_ble_eq_true rfl) rfl ?_
  have L3 : ∀ (v0 : Nat) (v1 : Nat) (v2 : Nat) (v3 : Int) (v4 : Nat) (v5 : Int) (σ : Sto), knd v0 = (16, 2) → knd v1 = (10, 14) → knd v2 = (14, 3) → inR v3 → knd v4 = (0, 12) → inR v5 → OK σ → loopK (fun q nx3 => F_X6_fill_B3 N  nx3 v0 v1 v2 v3 v4 q.1 q.2) N (v5, σ) = some res → At p l e rm_X6_fill s m args below meth c 0 0 g 8 (MQ below (QV g s.heap.size res) args s 0 0 (AA g s.heap.size)) 3 [(0, vr g v0), (1, vr g v1), (2, vr g v2), (3, vi v3), (4, vr g v4), (5, vi v5)] [] σ := by
    intro v0 v1 v2 v3 v4 v5 σ hk0 hk1 hk2 h3 hk4 h5 ok hF
    refine loopK_ind (res := res) (P := fun (q : Int × Sto) => inR q.1 → OK q.2 → At p l e rm_X6_fill s m args below meth c 0 0 g 8 (MQ below (QV g s.heap.size res) args s 0 0 (AA g s.heap.size)) 3 [(0, vr g v0), (1, vr g v1), (2, vr g v2), (3, vi v3), (4, vr g v4), (5, vi q.1)] [] q.2) ?_ N _ hF h5 ok
    intro nx3 q ih3 hF
    obtain ⟨v5, σ⟩ := q
    intro h5 ok
    have hF : F_X6_fill_B3 N  nx3 v0 v1 v2 v3 v4 v5 σ = some res := hF
    unfold F_X6_fill_B3 at hF
    refine at_iload (pc := 3) C 5 dX6_fill_3 rfl ?_
    refine at_aload_n (pc := 5) C 1 dX6_fill_5 rfl rfl ?_
    refine at_geti (pc := 6) (jz := 9) C fw_6_18 hk1 rfl (Nat.le_of_ble_eq_true rfl) rfl rfl dX6_fill_6 ?_
    refine at_icmp_ge (pc := 9) (tgt := 116) C h5 (ok v1 9) dX6_fill_9 rfl (fun c1 => ?_) (fun c1 => ?_)
    · have hF := (if_pos c1).symm.trans hF
      obtain rfl := Option.some.inj hF
      exact at_vret (pc := 116) C hr hlk ok dX6_fill_116
    · have hF := (if_neg c1).symm.trans hF
      refine at_iconst (pc := 12) C dX6_fill_12 ?_
      refine at_istore (pc := 13) (lv' := [(6, vi 0), (0, vr g v0), (1, vr g v1), (2, vr g v2), (3, vi v3), (4, vr g v4), (5, vi v5)]) C dX6_fill_13 (Nat.le_of_ble_eq_true rfl) rfl ?_
      have L15 : ∀ (v5 : Int) (v6 : Int) (σ : Sto), inR v5 → inR v6 → OK σ → loopK (fun q nx15 => F_X6_fill_B15 N nx3 nx15 v0 v1 v2 v3 v4 v5 q.1 q.2) N (v6, σ) = some res → At p l e rm_X6_fill s m args below meth c 0 0 g 8 (MQ below (QV g s.heap.size res) args s 0 0 (AA g s.heap.size)) 15 [(0, vr g v0), (1, vr g v1), (2, vr g v2), (3, vi v3), (4, vr g v4), (5, vi v5), (6, vi v6)] [] σ := by
        intro v5 v6 σ h5 h6 ok hF
        refine loopK_ind (res := res) (P := fun (q : Int × Sto) => inR q.1 → OK q.2 → At p l e rm_X6_fill s m args below meth c 0 0 g 8 (MQ below (QV g s.heap.size res) args s 0 0 (AA g s.heap.size)) 15 [(0, vr g v0), (1, vr g v1), (2, vr g v2), (3, vi v3), (4, vr g v4), (5, vi v5), (6, vi q.1)] [] q.2) ?_ N _ hF h6 ok
        intro nx15 q ih15 hF
        obtain ⟨v6, σ⟩ := q
        intro h6 ok
        have hF : F_X6_fill_B15 N nx3 nx15 v0 v1 v2 v3 v4 v5 v6 σ = some res := hF
        unfold F_X6_fill_B15 at hF
        have J110 : ∀ (v5 : Int) (σ : Sto), inR v5 → OK σ → F_X6_fill_J110 N nx3 v0 v1 v2 v3 v4 v5 σ = some res → At p l e rm_X6_fill s m args below meth c 0 0 g 8 (MQ below (QV g s.heap.size res) args s 0 0 (AA g s.heap.size)) 110 [(0, vr g v0), (1, vr g v1), (2, vr g v2), (3, vi v3), (4, vr g v4), (5, vi v5)] [] σ := by
          intro v5 σ h5 ok hF
          unfold F_X6_fill_J110 at hF
          refine at_iinc (pc := 110) (lv' := [(5, vi (ja v5 1)), (0, vr g v0), (1, vr g v1), (2, vr g v2), (3, vi v3), (4, vr g v4)]) C 5 dX6_fill_110 rfl (Nat.le_of_ble_eq_true rfl) rfl ?_
          refine at_goto (pc := 113) (tgt := 3) C dX6_fill_113 rfl ?_
          refine at_sub (lv' := [(0, vr g v0), (1, vr g v1), (2, vr g v2), (3, vi v3), (4, vr g v4), (5, vi (ja v5 1))]) [1, 2, 3, 4, 5, 0] rfl ?_
          exact ih3 _ hF (ja_R v5 1) ok
        refine at_iload (pc := 15) C 6 dX6_fill_15 rfl ?_
        refine at_aload_n (pc := 17) C 1 dX6_fill_17 rfl rfl ?_
        refine at_geti (pc := 18) (jz := 9) C fw_6_18 hk1 rfl (Nat.le_of_ble_eq_true rfl) rfl rfl dX6_fill_18 ?_
        refine at_icmp_ge (pc := 21) (tgt := 110) C h6 (ok v1 9) dX6_fill_21 rfl (fun c2 => ?_) (fun c2 => ?_)
        · have hF := (if_pos c2).symm.trans hF
          refine at_sub (lv' := [(0, vr g v0), (1, vr g v1), (2, vr g v2), (3, vi v3), (4, vr g v4), (5, vi v5)]) [0, 1, 2, 3, 4, 5] rfl ?_
          exact J110 v5 σ h5 ok hF
        · have hF := (if_neg c2).symm.trans hF
          have J104 : ∀ (v6 : Int) (σ : Sto), inR v6 → OK σ → F_X6_fill_J104 N nx3 nx15 v0 v1 v2 v3 v4 v5 v6 σ = some res → At p l e rm_X6_fill s m args below meth c 0 0 g 8 (MQ below (QV g s.heap.size res) args s 0 0 (AA g s.heap.size)) 104 [(0, vr g v0), (1, vr g v1), (2, vr g v2), (3, vi v3), (4, vr g v4), (5, vi v5), (6, vi v6)] [] σ := by
            intro v6 σ h6 ok hF
            unfold F_X6_fill_J104 at hF
            refine at_iinc (pc := 104) (lv' := [(6, vi (ja v6 1)), (0, vr g v0), (1, vr g v1), (2, vr g v2), (3, vi v3), (4, vr g v4), (5, vi v5)]) C 6 dX6_fill_104 rfl (Nat.le_of_ble_eq_true rfl) rfl ?_
            refine at_goto (pc := 107) (tgt := 15) C dX6_fill_107 rfl ?_
            refine at_sub (lv' := [(0, vr g v0), (1, vr g v1), (2, vr g v2), (3, vi v3), (4, vr g v4), (5, vi v5), (6, vi (ja v6 1))]) [1, 2, 3, 4, 5, 6, 0] rfl ?_
            exact ih15 _ hF (ja_R v6 1) ok
          refine at_iload (pc := 24) C 5 dX6_fill_24 rfl ?_
          refine at_bipush (pc := 26) C dX6_fill_26 (by decide) ?_
          refine at_imul (pc := 28) C dX6_fill_28 ?_
          refine at_iload (pc := 29) C 6 dX6_fill_29 rfl ?_
          refine at_iadd (pc := 31) C dX6_fill_31 ?_
          refine at_istore (pc := 32) (lv' := [(7, vi (ja (jm v5 12) v6)), (0, vr g v0), (1, vr g v1), (2, vr g v2), (3, vi v3), (4, vr g v4), (5, vi v5), (6, vi v6)]) C dX6_fill_32 (Nat.le_of_ble_eq_true rfl) rfl ?_
          refine at_aload_n (pc := 34) C 1 dX6_fill_34 rfl rfl ?_
          refine at_getr (pc := 35) C 1 fw_6_9 hk0 rfl (Nat.le_of_ble_eq_true rfl) rfl rfl dX6_fill_35 ?_
          refine at_iload (pc := 38) C 0 dX6_fill_38 rfl ?_
          refine at_iconst (pc := 40) C dX6_fill_40 ?_
          obtain ⟨b3, hF⟩ := inb_some hF
          refine at_iastore (pc := 41) C (kf6_0 hk0) b3 dX6_fill_41 ?_
          refine at_aload_n (pc := 42) C 1 dX6_fill_42 rfl rfl ?_
          refine at_getr (pc := 43) C 2 fw_6_15 hk0 rfl (Nat.le_of_ble_eq_true rfl) rfl rfl dX6_fill_43 ?_
          refine at_iload (pc := 46) C 0 dX6_fill_46 rfl ?_
          refine at_iconst (pc := 48) C dX6_fill_48 ?_
          refine at_iastore (pc := 49) C (kf6_1 hk0) b3 dX6_fill_49 ?_
          refine at_aload_n (pc := 50) C 2 dX6_fill_50 rfl rfl ?_
          refine at_getr (pc := 51) C 7 fw_6_24 hk1 rfl (Nat.le_of_ble_eq_true rfl) rfl rfl dX6_fill_51 ?_
          refine at_iload (pc := 54) C 6 dX6_fill_54 rfl ?_
          obtain ⟨b4, hF⟩ := inb_some hF
          refine at_iaload (pc := 56) C (kf0_6 hk1) b4 dX6_fill_56 ?_
          refine at_if_ge (pc := 57) (tgt := 104) C ((OK_up (k := (v0 + 2)) (j := (ja (jm v5 12) v6)) (OK_up (k := (v0 + 1)) (j := (ja (jm v5 12) v6)) ok (show inR (-1) from ⟨by decide, by decide⟩)) (isB.r (Or.inl rfl))) (v1 + 7) v5) dX6_fill_57 rfl (fun c5 => ?_) (fun c5 => ?_)
          · have hF := (if_pos c5).symm.trans hF
            refine at_sub (lv' := [(0, vr g v0), (1, vr g v1), (2, vr g v2), (3, vi v3), (4, vr g v4), (5, vi v5), (6, vi v6)]) [1, 2, 3, 4, 5, 6, 7] rfl ?_
            exact J104 v6 (upI (upI σ (v0 + 1) (ja (jm v5 12) v6) (-1)) (v0 + 2) (ja (jm v5 12) v6) 0) h6 (OK_up (k := (v0 + 2)) (j := (ja (jm v5 12) v6)) (OK_up (k := (v0 + 1)) (j := (ja (jm v5 12) v6)) ok (show inR (-1) from ⟨by decide, by decide⟩)) (isB.r (Or.inl rfl))) hF
          · have hF := (if_neg c5).symm.trans hF
            refine at_aload_n (pc := 60) C 2 dX6_fill_60 rfl rfl ?_
            refine at_getr (pc := 61) C 7 fw_6_24 hk1 rfl (Nat.le_of_ble_eq_true rfl) rfl rfl dX6_fill_61 ?_
            refine at_iload (pc := 64) C 7 dX6_fill_64 rfl ?_
            obtain ⟨b6, hF⟩ := inb_some hF
            refine at_iaload (pc := 66) C (kf0_6 hk1) b6 dX6_fill_66 ?_
            refine at_if_le (pc := 67) (tgt := 104) C ((OK_up (k := (v0 + 2)) (j := (ja (jm v5 12) v6)) (OK_up (k := (v0 + 1)) (j := (ja (jm v5 12) v6)) ok (show inR (-1) from ⟨by decide, by decide⟩)) (isB.r (Or.inl rfl))) (v1 + 7) v6) dX6_fill_67 rfl (fun c7 => ?_) (fun c7 => ?_)
            · have hF := (if_pos c7).symm.trans hF
              refine at_sub (lv' := [(0, vr g v0), (1, vr g v1), (2, vr g v2), (3, vi v3), (4, vr g v4), (5, vi v5), (6, vi v6)]) [1, 2, 3, 4, 5, 6, 7] rfl ?_
              exact J104 v6 (upI (upI σ (v0 + 1) (ja (jm v5 12) v6) (-1)) (v0 + 2) (ja (jm v5 12) v6) 0) h6 (OK_up (k := (v0 + 2)) (j := (ja (jm v5 12) v6)) (OK_up (k := (v0 + 1)) (j := (ja (jm v5 12) v6)) ok (show inR (-1) from ⟨by decide, by decide⟩)) (isB.r (Or.inl rfl))) hF
            · have hF := (if_neg c7).symm.trans hF
              refine at_aload_n (pc := 70) C 1 dX6_fill_70 rfl rfl ?_
              refine at_getr (pc := 71) C 1 fw_6_9 hk0 rfl (Nat.le_of_ble_eq_true rfl) rfl rfl dX6_fill_71 ?_
              refine at_iload (pc := 74) C 0 dX6_fill_74 rfl ?_
              refine at_aload_n (pc := 76) C 2 dX6_fill_76 rfl rfl ?_
              refine at_aload_n (pc := 77) C 3 dX6_fill_77 rfl rfl ?_
              refine at_iload_n (pc := 78) C 4 dX6_fill_78 rfl rfl ?_
              refine at_aload (pc := 79) C 5 dX6_fill_79 rfl ?_
              refine at_iload (pc := 81) C 6 dX6_fill_81 rfl ?_
              refine at_iload (pc := 83) C 7 dX6_fill_83 rfl ?_
              obtain ⟨q8, eq8, hF⟩ := bind_some' hF
              refine at_callS (pc := 85) C (c_X6_boundOf l g N v1 v2 v3 v4 v5 v6 (upI (upI σ (v0 + 1) (ja (jm v5 12) v6) (-1)) (v0 + 2) (ja (jm v5 12) v6) 0) q8 hk1 hk2 h3 hk4 h5 h6 (OK_up (k := (v0 + 2)) (j := (ja (jm v5 12) v6)) (OK_up (k := (v0 + 1)) (j := (ja (jm v5 12) v6)) ok (show inR (-1) from ⟨by decide, by decide⟩)) (isB.r (Or.inl rfl))) eq8) ks_X6_boundOf w810 rfl rfl (Nat.le_of_ble_eq_true rfl) ⟨rfl, rfl, (Nat.le_of_ble_eq_true rfl), (Nat.le_of_ble_eq_true rfl)⟩ dX6_fill_85 (fun tq8 okq8 => ?_)
              refine at_iastore (pc := 88) C (kf6_0 hk0) b3 dX6_fill_88 ?_
              refine at_aload_n (pc := 89) C 1 dX6_fill_89 rfl rfl ?_
              refine at_getr (pc := 90) C 2 fw_6_15 hk0 rfl (Nat.le_of_ble_eq_true rfl) rfl rfl dX6_fill_90 ?_
              refine at_iload (pc := 93) C 0 dX6_fill_93 rfl ?_
              refine at_aload_n (pc := 95) C 2 dX6_fill_95 rfl rfl ?_
              refine at_iload (pc := 96) C 6 dX6_fill_96 rfl ?_
              refine at_iload (pc := 98) C 7 dX6_fill_98 rfl ?_
              obtain ⟨q9, eq9, hF⟩ := bind_some' hF
              refine at_callV (pc := 100) (ci := 0) C (c_X0_priceOf l g N v1 v5 v6 (upI (upI (upI σ (v0 + 1) (ja (jm v5 12) v6) (-1)) (v0 + 2) (ja (jm v5 12) v6) 0) (v0 + 1) (ja (jm v5 12) v6) q8) q9 hk1 h5 h6 (OK_up (k := (v0 + 1)) (j := (ja (jm v5 12) v6)) (OK_up (k := (v0 + 2)) (j := (ja (jm v5 12) v6)) (OK_up (k := (v0 + 1)) (j := (ja (jm v5 12) v6)) ok (show inR (-1) from ⟨by decide, by decide⟩)) (isB.r (Or.inl rfl))) tq8) eq9) kv_X0_priceOf w837 hk1 rfl rfl rfl rfl (Nat.le_of_ble_eq_true rfl) ⟨rfl, rfl, (Nat.le_of_ble_eq_true rfl), (Nat.le_of_ble_eq_true rfl)⟩ dX6_fill_100 (fun tq9 okq9 => ?_)
              refine at_iastore (pc := 103) C (kf6_1 hk0) b3 dX6_fill_103 ?_
              refine at_sub (lv' := [(0, vr g v0), (1, vr g v1), (2, vr g v2), (3, vi v3), (4, vr g v4), (5, vi v5), (6, vi v6)]) [1, 2, 3, 4, 5, 6, 7] rfl ?_
              exact J104 v6 (upI (upI (upI (upI σ (v0 + 1) (ja (jm v5 12) v6) (-1)) (v0 + 2) (ja (jm v5 12) v6) 0) (v0 + 1) (ja (jm v5 12) v6) q8) (v0 + 2) (ja (jm v5 12) v6) q9) h6 (OK_up (k := (v0 + 2)) (j := (ja (jm v5 12) v6)) (OK_up (k := (v0 + 1)) (j := (ja (jm v5 12) v6)) (OK_up (k := (v0 + 2)) (j := (ja (jm v5 12) v6)) (OK_up (k := (v0 + 1)) (j := (ja (jm v5 12) v6)) ok (show inR (-1) from ⟨by decide, by decide⟩)) (isB.r (Or.inl rfl))) tq8) tq9) hF
      refine at_sub (lv' := [(0, vr g v0), (1, vr g v1), (2, vr g v2), (3, vi v3), (4, vr g v4), (5, vi v5), (6, vi 0)]) [1, 2, 3, 4, 5, 6, 0] rfl ?_
      exact L15 v5 0 σ h5 (isB.r (Or.inl rfl)) ok hF
  refine at_sub (lv' := [(0, vr g v0), (1, vr g v1), (2, vr g v2), (3, vi v3), (4, vr g v4), (5, vi 0)]) [1, 2, 3, 4, 5, 0] rfl ?_
  exact L3 v0 v1 v2 v3 v4 0 σ hk0 hk1 hk2 h3 hk4 (isB.r (Or.inl rfl)) ok hF
abbrev rm_X7_add : Room := { frames := 0, cells := 0, slots := 0, locals := 0 }
def F_X7_add (N : Nat) (v0 : Nat) (v1 : Int) (v2 : Int) (v3 : Int) (v4 : Int) (σ : Sto) : Option (Sto) :=
  if 24 ≤ (σ.1 v0 4) then (some σ) else (inb (σ.1 v0 4) 24 (inb ((upI σ (v0 + 1) (σ.1 v0 4) v1).1 v0 4) 24 (inb ((upI (upI σ (v0 + 1) (σ.1 v0 4) v1) (v0 + 2) ((upI σ (v0 + 1) (σ.1 v0 4) v1).1 v0 4) v2).1 v0 4) 24 (inb ((upI (upI (upI σ (v0 + 1) (σ.1 v0 4) v1) (v0 + 2) ((upI σ (v0 + 1) (σ.1 v0 4) v1).1 v0 4) v2) (v0 + 3) ((upI (upI σ (v0 + 1) (σ.1 v0 4) v1) (v0 + 2) ((upI σ (v0 + 1) (σ.1 v0 4) v1).1 v0 4) v2).1 v0 4) v3).1 v0 4) 24 (some (upI (upI (upI (upI (upI σ (v0 + 1) (σ.1 v0 4) v1) (v0 + 2) ((upI σ (v0 + 1) (σ.1 v0 4) v1).1 v0 4) v2) (v0 + 3) ((upI (upI σ (v0 + 1) (σ.1 v0 4) v1) (v0 + 2) ((upI σ (v0 + 1) (σ.1 v0 4) v1).1 v0 4) v2).1 v0 4) v3) (v0 + 4) ((upI (upI (upI σ (v0 + 1) (σ.1 v0 4) v1) (v0 + 2) ((upI σ (v0 + 1) (σ.1 v0 4) v1).1 v0 4) v2) (v0 + 3) ((upI (upI σ (v0 + 1) (σ.1 v0 4) v1) (v0 + 2) ((upI σ (v0 + 1) (σ.1 v0 4) v1).1 v0 4) v2).1 v0 4) v3).1 v0 4) v4) v0 4 (ja ((upI (upI (upI (upI σ (v0 + 1) (σ.1 v0 4) v1) (v0 + 2) ((upI σ (v0 + 1) (σ.1 v0 4) v1).1 v0 4) v2) (v0 + 3) ((upI (upI σ (v0 + 1) (σ.1 v0 4) v1) (v0 + 2) ((upI σ (v0 + 1) (σ.1 v0 4) v1).1 v0 4) v2).1 v0 4) v3) (v0 + 4) ((upI (upI (upI σ (v0 + 1) (σ.1 v0 4) v1) (v0 + 2) ((upI σ (v0 + 1) (σ.1 v0 4) v1).1 v0 4) v2) (v0 + 3) ((upI (upI σ (v0 + 1) (σ.1 v0 4) v1) (v0 + 2) ((upI σ (v0 + 1) (σ.1 v0 4) v1).1 v0 4) v2).1 v0 4) v3).1 v0 4) v4).1 v0 4) 1)))))))
set_option maxHeartbeats 4000000 in
set_option maxRecDepth 100000 in
theorem c_X7_add (l : Launch) (g : Geo) (N : Nat) (v0 : Nat) (v1 : Int) (v2 : Int) (v3 : Int) (v4 : Int) (σ : Sto) (res : Sto) (hk0 : knd v0 = (17, 5)) (h1 : inR v1) (h2 : inR v2) (h3 : inR v3) (h4 : inR v4) (ok : OK σ) (hF : F_X7_add N v0 v1 v2 v3 v4 σ = some res) : MtV l g yX7_add cX7_add 5 none rm_X7_add [vr g v0, vi v1, vi v2, vi v3, vi v4] σ res := by
  intro sz
  refine Met.ofAt (own := RX7) (QQ := fun z => QV g z res) (by decide +kernel) (Nat.le_of_ble_eq_true rfl) rfl ?_
  intro p e s m args below meth c C hr hlk
  show At p l e rm_X7_add s m args below meth c 0 0 g 5 (MQ below (QV g s.heap.size res) args s 0 0 (AA g s.heap.size)) 0 [(0, vr g v0), (1, vi v1), (2, vi v2), (3, vi v3), (4, vi v4)] [] σ
  unfold F_X7_add at hF
  refine at_aload_n (pc := 0) C 0 dX7_add_0 rfl rfl ?_
  refine at_geti (pc := 1) (jz := 4) C fw_7_24 hk0 rfl (Nat.le_of_ble_eq_true rfl) rfl rfl dX7_add_1 ?_
  refine at_bipush (pc := 4) C dX7_add_4 (by decide) ?_
  refine at_icmp_ge (pc := 6) (tgt := 60) C (ok v0 4) (show inR 24 from ⟨by decide, by decide⟩) dX7_add_6 rfl (fun c1 => ?_) (fun c1 => ?_)
  · have hF := (if_pos c1).symm.trans hF
    obtain rfl := Option.some.inj hF
    exact at_vret (pc := 60) C hr hlk ok dX7_add_60
  · have hF := (if_neg c1).symm.trans hF
    refine at_aload_n (pc := 9) C 0 dX7_add_9 rfl rfl ?_
    refine at_getr (pc := 10) C 1 fw_7_9 hk0 rfl (Nat.le_of_ble_eq_true rfl) rfl rfl dX7_add_10 ?_
    refine at_aload_n (pc := 13) C 0 dX7_add_13 rfl rfl ?_
    refine at_geti (pc := 14) (jz := 4) C fw_7_24 hk0 rfl (Nat.le_of_ble_eq_true rfl) rfl rfl dX7_add_14 ?_
    refine at_iload_n (pc := 17) C 1 dX7_add_17 rfl rfl ?_
    obtain ⟨b2, hF⟩ := inb_some hF
    refine at_iastore (pc := 18) C (kf7_0 hk0) b2 dX7_add_18 ?_
    refine at_aload_n (pc := 19) C 0 dX7_add_19 rfl rfl ?_
    refine at_getr (pc := 20) C 2 fw_7_15 hk0 rfl (Nat.le_of_ble_eq_true rfl) rfl rfl dX7_add_20 ?_
    refine at_aload_n (pc := 23) C 0 dX7_add_23 rfl rfl ?_
    refine at_geti (pc := 24) (jz := 4) C fw_7_24 hk0 rfl (Nat.le_of_ble_eq_true rfl) rfl rfl dX7_add_24 ?_
    refine at_iload_n (pc := 27) C 2 dX7_add_27 rfl rfl ?_
    obtain ⟨b3, hF⟩ := inb_some hF
    refine at_iastore (pc := 28) C (kf7_1 hk0) b3 dX7_add_28 ?_
    refine at_aload_n (pc := 29) C 0 dX7_add_29 rfl rfl ?_
    refine at_getr (pc := 30) C 3 fw_7_18 hk0 rfl (Nat.le_of_ble_eq_true rfl) rfl rfl dX7_add_30 ?_
    refine at_aload_n (pc := 33) C 0 dX7_add_33 rfl rfl ?_
    refine at_geti (pc := 34) (jz := 4) C fw_7_24 hk0 rfl (Nat.le_of_ble_eq_true rfl) rfl rfl dX7_add_34 ?_
    refine at_iload_n (pc := 37) C 3 dX7_add_37 rfl rfl ?_
    obtain ⟨b4, hF⟩ := inb_some hF
    refine at_iastore (pc := 38) C (kf7_2 hk0) b4 dX7_add_38 ?_
    refine at_aload_n (pc := 39) C 0 dX7_add_39 rfl rfl ?_
    refine at_getr (pc := 40) C 4 fw_7_21 hk0 rfl (Nat.le_of_ble_eq_true rfl) rfl rfl dX7_add_40 ?_
    refine at_aload_n (pc := 43) C 0 dX7_add_43 rfl rfl ?_
    refine at_geti (pc := 44) (jz := 4) C fw_7_24 hk0 rfl (Nat.le_of_ble_eq_true rfl) rfl rfl dX7_add_44 ?_
    refine at_iload (pc := 47) C 4 dX7_add_47 rfl ?_
    obtain ⟨b5, hF⟩ := inb_some hF
    refine at_iastore (pc := 49) C (kf7_3 hk0) b5 dX7_add_49 ?_
    refine at_aload_n (pc := 50) C 0 dX7_add_50 rfl rfl ?_
    refine at_dup (pc := 51) C dX7_add_51 rfl ?_
    refine at_geti (pc := 52) (jz := 4) C fw_7_24 hk0 rfl (Nat.le_of_ble_eq_true rfl) rfl rfl dX7_add_52 ?_
    refine at_iconst (pc := 55) C dX7_add_55 ?_
    refine at_iadd (pc := 56) C dX7_add_56 ?_
    refine at_puti (pc := 57) (jz := 4) C fu_7_24 hk0 rfl (Nat.le_of_ble_eq_true rfl) rfl rfl dX7_add_57 ?_
    obtain rfl := Option.some.inj hF
    exact at_vret (pc := 60) C hr hlk (OK_up (k := v0) (j := 4) (OK_up (k := (v0 + 4)) (j := ((upI (upI (upI σ (v0 + 1) (σ.1 v0 4) v1) (v0 + 2) ((upI σ (v0 + 1) (σ.1 v0 4) v1).1 v0 4) v2) (v0 + 3) ((upI (upI σ (v0 + 1) (σ.1 v0 4) v1) (v0 + 2) ((upI σ (v0 + 1) (σ.1 v0 4) v1).1 v0 4) v2).1 v0 4) v3).1 v0 4)) (OK_up (k := (v0 + 3)) (j := ((upI (upI σ (v0 + 1) (σ.1 v0 4) v1) (v0 + 2) ((upI σ (v0 + 1) (σ.1 v0 4) v1).1 v0 4) v2).1 v0 4)) (OK_up (k := (v0 + 2)) (j := ((upI σ (v0 + 1) (σ.1 v0 4) v1).1 v0 4)) (OK_up (k := (v0 + 1)) (j := (σ.1 v0 4)) ok h1) h2) h3) h4) (ja_R ((upI (upI (upI (upI σ (v0 + 1) (σ.1 v0 4) v1) (v0 + 2) ((upI σ (v0 + 1) (σ.1 v0 4) v1).1 v0 4) v2) (v0 + 3) ((upI (upI σ (v0 + 1) (σ.1 v0 4) v1) (v0 + 2) ((upI σ (v0 + 1) (σ.1 v0 4) v1).1 v0 4) v2).1 v0 4) v3) (v0 + 4) ((upI (upI (upI σ (v0 + 1) (σ.1 v0 4) v1) (v0 + 2) ((upI σ (v0 + 1) (σ.1 v0 4) v1).1 v0 4) v2) (v0 + 3) ((upI (upI σ (v0 + 1) (σ.1 v0 4) v1) (v0 + 2) ((upI σ (v0 + 1) (σ.1 v0 4) v1).1 v0 4) v2).1 v0 4) v3).1 v0 4) v4).1 v0 4) 1)) dX7_add_60
abbrev rm_X7_dropLast : Room := { frames := 1, cells := 0, slots := 0, locals := 21 }
def F_X7_dropLast (N : Nat) (v0 : Nat) (σ : Sto) : Option (Sto) :=
  some (upI σ v0 4 (jmax 0 (js (σ.1 v0 4) 1)))
set_option maxHeartbeats 4000000 in
set_option maxRecDepth 100000 in
theorem c_X7_dropLast (l : Launch) (g : Geo) (N : Nat) (v0 : Nat) (σ : Sto) (res : Sto) (hk0 : knd v0 = (17, 5)) (ok : OK σ) (hF : F_X7_dropLast N v0 σ = some res) : MtV l g yX7_dropLast cX7_dropLast 1 none rm_X7_dropLast [vr g v0] σ res := by
  intro sz
  refine Met.ofAt (own := RX7) (QQ := fun z => QV g z res) (by decide +kernel) (Nat.le_of_ble_eq_true rfl) rfl ?_
  intro p e s m args below meth c C hr hlk
  show At p l e rm_X7_dropLast s m args below meth c 0 0 g 1 (MQ below (QV g s.heap.size res) args s 0 0 (AA g s.heap.size)) 0 [(0, vr g v0)] [] σ
  unfold F_X7_dropLast at hF
  refine at_aload_n (pc := 0) C 0 dX7_dropLast_0 rfl rfl ?_
  refine at_iconst (pc := 1) C dX7_dropLast_1 ?_
  refine at_aload_n (pc := 2) C 0 dX7_dropLast_2 rfl rfl ?_
  refine at_geti (pc := 3) (jz := 4) C fw_7_24 hk0 rfl (Nat.le_of_ble_eq_true rfl) rfl rfl dX7_dropLast_3 ?_
  refine at_iconst (pc := 6) C dX7_dropLast_6 ?_
  refine at_isub (pc := 7) C dX7_dropLast_7 ?_
  refine at_mmax (pc := 8) C km_max w877 (isB.r (Or.inl rfl)) (js_R (σ.1 v0 4) 1) ⟨(Nat.le_of_ble_eq_true rfl), (Nat.le_of_ble_eq_true rfl)⟩ dX7_dropLast_8 ?_
  refine at_puti (pc := 11) (jz := 4) C fu_7_24 hk0 rfl (Nat.le_of_ble_eq_true rfl) rfl rfl dX7_dropLast_11 ?_
  obtain rfl := Option.some.inj hF
  exact at_vret (pc := 14) C hr hlk (OK_up (k := v0) (j := 4) ok (jmax_R (isB.r (Or.inl rfl)) (js_R (σ.1 v0 4) 1))) dX7_dropLast_14
abbrev rm_X7_copy : Room := { frames := 1, cells := 0, slots := 0, locals := 48 }
def F_X7_copy (N : Nat) (v0 : Nat) (v1 : Nat) (σ : Sto) : Option (Sto) :=
  grd ((0 : Int) ≤ 0 ∧ (0 : Int) ≤ 0 ∧ (0 : Int) ≤ 24 ∧ (0 : Int) + 24 ≤ 24 ∧ (0 : Int) + 24 ≤ 24) inferInstance (grd ((0 : Int) ≤ 0 ∧ (0 : Int) ≤ 0 ∧ (0 : Int) ≤ 24 ∧ (0 : Int) + 24 ≤ 24 ∧ (0 : Int) + 24 ≤ 24) inferInstance (grd ((0 : Int) ≤ 0 ∧ (0 : Int) ≤ 0 ∧ (0 : Int) ≤ 24 ∧ (0 : Int) + 24 ≤ 24 ∧ (0 : Int) + 24 ≤ 24) inferInstance (grd ((0 : Int) ≤ 0 ∧ (0 : Int) ≤ 0 ∧ (0 : Int) ≤ 24 ∧ (0 : Int) + 24 ≤ 24 ∧ (0 : Int) + 24 ≤ 24) inferInstance (some (upI (cpI (cpI (cpI (cpI σ (v1 + 1) 0 (v0 + 1) 0 24) (v1 + 2) 0 (v0 + 2) 0 24) (v1 + 3) 0 (v0 + 3) 0 24) (v1 + 4) 0 (v0 + 4) 0 24) v0 4 ((cpI (cpI (cpI (cpI σ (v1 + 1) 0 (v0 + 1) 0 24) (v1 + 2) 0 (v0 + 2) 0 24) (v1 + 3) 0 (v0 + 3) 0 24) (v1 + 4) 0 (v0 + 4) 0 24).1 v1 4))))))
set_option maxHeartbeats 4000000 in
set_option maxRecDepth 100000 in
theorem c_X7_copy (l : Launch) (g : Geo) (N : Nat) (v0 : Nat) (v1 : Nat) (σ : Sto) (res : Sto) (hk0 : knd v0 = (17, 5)) (hk1 : knd v1 = (17, 5)) (ok : OK σ) (hF : F_X7_copy N v0 v1 σ = some res) : MtV l g yX7_copy cX7_copy 2 none rm_X7_copy [vr g v0, vr g v1] σ res := by
  intro sz
  refine Met.ofAt (own := RX7) (QQ := fun z => QV g z res) (by decide +kernel) (Nat.le_of_ble_eq_true rfl) rfl ?_
  intro p e s m args below meth c C hr hlk
  show At p l e rm_X7_copy s m args below meth c 0 0 g 2 (MQ below (QV g s.heap.size res) args s 0 0 (AA g s.heap.size)) 0 [(0, vr g v0), (1, vr g v1)] [] σ
  unfold F_X7_copy at hF
  refine at_aload_n (pc := 0) C 1 dX7_copy_0 rfl rfl ?_
  refine at_getr (pc := 1) C 1 fw_7_9 hk1 rfl (Nat.le_of_ble_eq_true rfl) rfl rfl dX7_copy_1 ?_
  refine at_iconst (pc := 4) C dX7_copy_4 ?_
  refine at_aload_n (pc := 5) C 0 dX7_copy_5 rfl rfl ?_
  refine at_getr (pc := 6) C 1 fw_7_9 hk0 rfl (Nat.le_of_ble_eq_true rfl) rfl rfl dX7_copy_6 ?_
  refine at_iconst (pc := 9) C dX7_copy_9 ?_
  refine at_bipush (pc := 10) C dX7_copy_10 (by decide) ?_
  obtain ⟨y1, hF⟩ := grd_some hF
  refine at_copy (pc := 12) C kc w1197 (kf7_0 hk1) (kf7_0 hk0) y1 ⟨(Nat.le_of_ble_eq_true rfl), (Nat.le_of_ble_eq_true rfl)⟩ dX7_copy_12 ?_
  refine at_aload_n (pc := 15) C 1 dX7_copy_15 rfl rfl ?_
  refine at_getr (pc := 16) C 2 fw_7_15 hk1 rfl (Nat.le_of_ble_eq_true rfl) rfl rfl dX7_copy_16 ?_
  refine at_iconst (pc := 19) C dX7_copy_19 ?_
  refine at_aload_n (pc := 20) C 0 dX7_copy_20 rfl rfl ?_
  refine at_getr (pc := 21) C 2 fw_7_15 hk0 rfl (Nat.le_of_ble_eq_true rfl) rfl rfl dX7_copy_21 ?_
  refine at_iconst (pc := 24) C dX7_copy_24 ?_
  refine at_bipush (pc := 25) C dX7_copy_25 (by decide) ?_
  obtain ⟨y2, hF⟩ := grd_some hF
  refine at_copy (pc := 27) C kc w1197 (kf7_1 hk1) (kf7_1 hk0) y2 ⟨(Nat.le_of_ble_eq_true rfl), (Nat.le_of_ble_eq_true rfl)⟩ dX7_copy_27 ?_
  refine at_aload_n (pc := 30) C 1 dX7_copy_30 rfl rfl ?_
  refine at_getr (pc := 31) C 3 fw_7_18 hk1 rfl (Nat.le_of_ble_eq_true rfl) rfl rfl dX7_copy_31 ?_
  refine at_iconst (pc := 34) C dX7_copy_34 ?_
  refine at_aload_n (pc := 35) C 0 dX7_copy_35 rfl rfl ?_
  refine at_getr (pc := 36) C 3 fw_7_18 hk0 rfl (Nat.le_of_ble_eq_true rfl) rfl rfl dX7_copy_36 ?_
  refine at_iconst (pc := 39) C dX7_copy_39 ?_
  refine at_bipush (pc := 40) C dX7_copy_40 (by decide) ?_
  obtain ⟨y3, hF⟩ := grd_some hF
  refine at_copy (pc := 42) C kc w1197 (kf7_2 hk1) (kf7_2 hk0) y3 ⟨(Nat.le_of_ble_eq_true rfl), (Nat.le_of_ble_eq_true rfl)⟩ dX7_copy_42 ?_
  refine at_aload_n (pc := 45) C 1 dX7_copy_45 rfl rfl ?_
  refine at_getr (pc := 46) C 4 fw_7_21 hk1 rfl (Nat.le_of_ble_eq_true rfl) rfl rfl dX7_copy_46 ?_
  refine at_iconst (pc := 49) C dX7_copy_49 ?_
  refine at_aload_n (pc := 50) C 0 dX7_copy_50 rfl rfl ?_
  refine at_getr (pc := 51) C 4 fw_7_21 hk0 rfl (Nat.le_of_ble_eq_true rfl) rfl rfl dX7_copy_51 ?_
  refine at_iconst (pc := 54) C dX7_copy_54 ?_
  refine at_bipush (pc := 55) C dX7_copy_55 (by decide) ?_
  obtain ⟨y4, hF⟩ := grd_some hF
  refine at_copy (pc := 57) C kc w1197 (kf7_3 hk1) (kf7_3 hk0) y4 ⟨(Nat.le_of_ble_eq_true rfl), (Nat.le_of_ble_eq_true rfl)⟩ dX7_copy_57 ?_
  refine at_aload_n (pc := 60) C 0 dX7_copy_60 rfl rfl ?_
  refine at_aload_n (pc := 61) C 1 dX7_copy_61 rfl rfl ?_
  refine at_geti (pc := 62) (jz := 4) C fw_7_24 hk1 rfl (Nat.le_of_ble_eq_true rfl) rfl rfl dX7_copy_62 ?_
  refine at_puti (pc := 65) (jz := 4) C fu_7_24 hk0 rfl (Nat.le_of_ble_eq_true rfl) rfl rfl dX7_copy_65 ?_
  obtain rfl := Option.some.inj hF
  exact at_vret (pc := 68) C hr hlk (OK_up (k := v0) (j := 4) (OK_cp (ks := (v1 + 4)) (sp := 0) (kd := (v0 + 4)) (dp := 0) (n := 24) (OK_cp (ks := (v1 + 3)) (sp := 0) (kd := (v0 + 3)) (dp := 0) (n := 24) (OK_cp (ks := (v1 + 2)) (sp := 0) (kd := (v0 + 2)) (dp := 0) (n := 24) (OK_cp (ks := (v1 + 1)) (sp := 0) (kd := (v0 + 1)) (dp := 0) (n := 24) ok)))) ((OK_cp (ks := (v1 + 4)) (sp := 0) (kd := (v0 + 4)) (dp := 0) (n := 24) (OK_cp (ks := (v1 + 3)) (sp := 0) (kd := (v0 + 3)) (dp := 0) (n := 24) (OK_cp (ks := (v1 + 2)) (sp := 0) (kd := (v0 + 2)) (dp := 0) (n := 24) (OK_cp (ks := (v1 + 1)) (sp := 0) (kd := (v0 + 1)) (dp := 0) (n := 24) ok)))) v1 4)) dX7_copy_68
abbrev rm_X8_put : Room := { frames := 0, cells := 0, slots := 0, locals := 0 }
def F_X8_put_J40 (N : Nat) (nx3 : (Int × Sto) → Option (Sto)) (v1 : Int) (v2 : Int) (σ : Sto) : Option (Sto) :=
  nx3 ((js v2 8), σ)
def F_X8_put_B3 (N : Nat) (nx3 : (Int × Sto) → Option (Sto)) (v1 : Int) (v2 : Int) (σ : Sto) : Option (Sto) :=
  if v2 < 0 then (some σ) else (if 700 ≤ (σ.1 1 1) then (F_X8_put_J40 N nx3 v1 v2 σ) else (inb (σ.1 1 1) 700 (F_X8_put_J40 N nx3 v1 v2 (upI (upI σ 2 (σ.1 1 1) (ji2b (jshr v1 v2))) 1 1 (ja ((upI σ 2 (σ.1 1 1) (ji2b (jshr v1 v2))).1 1 1) 1)))))
def F_X8_put (N : Nat) (v1 : Int) (σ : Sto) : Option (Sto) :=
  loopK (fun q nx3 => F_X8_put_B3 N  nx3 v1 q.1 q.2) N (24, σ)
set_option maxHeartbeats 4000000 in
set_option maxRecDepth 100000 in
theorem c_X8_put (l : Launch) (g : Geo) (N : Nat) (v1 : Int) (σ : Sto) (res : Sto) (h1 : inR v1) (ok : OK σ) (hF : F_X8_put N v1 σ = some res) : MtV l g yX8_put cX8_put 3 none rm_X8_put [vr g 1, vi v1] σ res := by
  intro sz
  refine Met.ofAt (own := RX8) (QQ := fun z => QV g z res) (by decide +kernel) (Nat.le_of_ble_eq_true rfl) rfl ?_
  intro p e s m args below meth c C hr hlk
  show At p l e rm_X8_put s m args below meth c 0 0 g 3 (MQ below (QV g s.heap.size res) args s 0 0 (AA g s.heap.size)) 0 [(0, vr g 1), (1, vi v1)] [] σ
  unfold F_X8_put at hF
  refine at_bipush (pc := 0) C dX8_put_0 (by decide) ?_
  refine at_istore_n (pc := 2) (lv' := [(2, vi 24), (0, vr g 1), (1, vi v1)]) C dX8_put_2 rfl (Nat.le_of_ble_eq_true rfl) rfl ?_
  have L3 : ∀ (v1 : Int) (v2 : Int) (σ : Sto), inR v1 → inR v2 → OK σ → loopK (fun q nx3 => F_X8_put_B3 N  nx3 v1 q.1 q.2) N (v2, σ) = some res → At p l e rm_X8_put s m args below meth c 0 0 g 3 (MQ below (QV g s.heap.size res) args s 0 0 (AA g s.heap.size)) 3 [(0, vr g 1), (1, vi v1), (2, vi v2)] [] σ := by
    intro v1 v2 σ h1 h2 ok hF
    refine loopK_ind (res := res) (P := fun (q : Int × Sto) => inR q.1 → OK q.2 → At p l e rm_X8_put s m args below meth c 0 0 g 3 (MQ below (QV g s.heap.size res) args s 0 0 (AA g s.heap.size)) 3 [(0, vr g 1), (1, vi v1), (2, vi q.1)] [] q.2) ?_ N _ hF h2 ok
    intro nx3 q ih3 hF
    obtain ⟨v2, σ⟩ := q
    intro h2 ok
    have hF : F_X8_put_B3 N  nx3 v1 v2 σ = some res := hF
    unfold F_X8_put_B3 at hF
    refine at_iload_n (pc := 3) C 2 dX8_put_3 rfl rfl ?_
    refine at_if_lt (pc := 4) (tgt := 46) C h2 dX8_put_4 rfl (fun c1 => ?_) (fun c1 => ?_)
    · have hF := (if_pos c1).symm.trans hF
      obtain rfl := Option.some.inj hF
      exact at_vret (pc := 46) C hr hlk ok dX8_put_46
    · have hF := (if_neg c1).symm.trans hF
      have J40 : ∀ (v2 : Int) (σ : Sto), inR v2 → OK σ → F_X8_put_J40 N nx3 v1 v2 σ = some res → At p l e rm_X8_put s m args below meth c 0 0 g 3 (MQ below (QV g s.heap.size res) args s 0 0 (AA g s.heap.size)) 40 [(0, vr g 1), (1, vi v1), (2, vi v2)] [] σ := by
        intro v2 σ h2 ok hF
        unfold F_X8_put_J40 at hF
        refine at_idec (pc := 40) (k := 8) (lv' := [(2, vi (js v2 8)), (0, vr g 1), (1, vi v1)]) C (by decide) 2 dX8_put_40 rfl (Nat.le_of_ble_eq_true rfl) rfl ?_
        refine at_goto (pc := 43) (tgt := 3) C dX8_put_43 rfl ?_
        refine at_sub (lv' := [(0, vr g 1), (1, vi v1), (2, vi (js v2 8))]) [1, 2, 0] rfl ?_
        exact ih3 _ hF (js_R v2 8) ok
      refine at_aload_n (pc := 7) C 0 dX8_put_7 rfl rfl ?_
      refine at_geti (pc := 8) (jz := 1) C fw_8_15 kd1 rfl (Nat.le_of_ble_eq_true rfl) rfl rfl dX8_put_8 ?_
      refine at_sipush (pc := 11) C dX8_put_11 (by decide) ?_
      refine at_icmp_ge (pc := 14) (tgt := 40) C (ok 1 1) (show inR 700 from ⟨by decide, by decide⟩) dX8_put_14 rfl (fun c2 => ?_) (fun c2 => ?_)
      · have hF := (if_pos c2).symm.trans hF
        exact J40 v2 σ h2 ok hF
      · have hF := (if_neg c2).symm.trans hF
        refine at_aload_n (pc := 17) C 0 dX8_put_17 rfl rfl ?_
        refine at_getr (pc := 18) (k' := 2) C 1 fw_8_9 kd1 rfl (Nat.le_of_ble_eq_true rfl) rfl rfl dX8_put_18 ?_
        refine at_aload_n (pc := 21) C 0 dX8_put_21 rfl rfl ?_
        refine at_geti (pc := 22) (jz := 1) C fw_8_15 kd1 rfl (Nat.le_of_ble_eq_true rfl) rfl rfl dX8_put_22 ?_
        refine at_iload_n (pc := 25) C 1 dX8_put_25 rfl rfl ?_
        refine at_iload_n (pc := 26) C 2 dX8_put_26 rfl rfl ?_
        refine at_ishr (pc := 27) C dX8_put_27 ?_
        refine at_i2b (pc := 28) C dX8_put_28 ?_
        obtain ⟨b3, hF⟩ := inb_some hF
        refine at_bastore (pc := 29) C kd2 b3 dX8_put_29 ?_
        refine at_aload_n (pc := 30) C 0 dX8_put_30 rfl rfl ?_
        refine at_dup (pc := 31) C dX8_put_31 rfl ?_
        refine at_geti (pc := 32) (jz := 1) C fw_8_15 kd1 rfl (Nat.le_of_ble_eq_true rfl) rfl rfl dX8_put_32 ?_
        refine at_iconst (pc := 35) C dX8_put_35 ?_
        refine at_iadd (pc := 36) C dX8_put_36 ?_
        refine at_puti (pc := 37) (jz := 1) C fu_8_15 kd1 rfl (Nat.le_of_ble_eq_true rfl) rfl rfl dX8_put_37 ?_
        exact J40 v2 (upI (upI σ 2 (σ.1 1 1) (ji2b (jshr v1 v2))) 1 1 (ja ((upI σ 2 (σ.1 1 1) (ji2b (jshr v1 v2))).1 1 1) 1)) h2 (OK_up (k := 1) (j := 1) (OK_up (k := 2) (j := (σ.1 1 1)) ok (ji2b_R (jshr v1 v2))) (ja_R ((upI σ 2 (σ.1 1 1) (ji2b (jshr v1 v2))).1 1 1) 1)) hF
  refine at_sub (lv' := [(0, vr g 1), (1, vi v1), (2, vi 24)]) [1, 2, 0] rfl ?_
  exact L3 v1 24 σ h1 (show inR 24 from ⟨by decide, by decide⟩) ok hF
abbrev rm_X8_sign : Room := { frames := 0, cells := 0, slots := 0, locals := 0 }
def F_X8_sign_J40 (N : Nat)   (σ : Sto) : Option (Int) :=
  some 0
def F_X8_sign (N : Nat)  (σ : Sto) : Option (Int) :=
  if (σ.1 1 3) < 0 then (F_X8_sign_J40 N   σ) else (if (σ.1 1 2) ≤ (σ.1 1 3) then (F_X8_sign_J40 N   σ) else (if 700 ≤ (σ.1 1 3) then (F_X8_sign_J40 N   σ) else (inb (σ.1 1 3) 700 (some (σ.1 2 (σ.1 1 3))))))
set_option maxHeartbeats 4000000 in
set_option maxRecDepth 100000 in
theorem c_X8_sign (l : Launch) (g : Geo) (N : Nat)  (σ : Sto) (res : Int)  (ok : OK σ) (hF : F_X8_sign N  σ = some res) : MtI l g yX8_sign cX8_sign 1 (some .int) rm_X8_sign [vr g 1] σ res σ inR := by
  intro sz
  refine Met.ofAt (own := RX8) (QQ := fun z => QI g z res σ inR) (by decide +kernel) (Nat.le_of_ble_eq_true rfl) rfl ?_
  intro p e s m args below meth c C hr hlk
  show At p l e rm_X8_sign s m args below meth c 0 0 g 1 (MQ below (QI g s.heap.size res σ inR) args s 0 0 (AA g s.heap.size)) 0 [(0, vr g 1)] [] σ
  unfold F_X8_sign at hF
  have J40 : F_X8_sign_J40 N   σ = some res → At p l e rm_X8_sign s m args below meth c 0 0 g 1 (MQ below (QI g s.heap.size res σ inR) args s 0 0 (AA g s.heap.size)) 40 [] [] σ := by
    intro   hF
    unfold F_X8_sign_J40 at hF
    refine at_iconst (pc := 40) C dX8_sign_40 ?_
    obtain rfl := Option.some.inj hF
    exact at_iret (pc := 41) C hr hlk (isB.r (Or.inl rfl)) ok dX8_sign_41
  refine at_aload_n (pc := 0) C 0 dX8_sign_0 rfl rfl ?_
  refine at_geti (pc := 1) (jz := 3) C fw_8_22 kd1 rfl (Nat.le_of_ble_eq_true rfl) rfl rfl dX8_sign_1 ?_
  refine at_if_lt (pc := 4) (tgt := 40) C (ok 1 3) dX8_sign_4 rfl (fun c1 => ?_) (fun c1 => ?_)
  · have hF := (if_pos c1).symm.trans hF
    refine at_sub (lv' := []) [] rfl ?_
    exact J40  hF
  · have hF := (if_neg c1).symm.trans hF
    refine at_aload_n (pc := 7) C 0 dX8_sign_7 rfl rfl ?_
    refine at_geti (pc := 8) (jz := 3) C fw_8_22 kd1 rfl (Nat.le_of_ble_eq_true rfl) rfl rfl dX8_sign_8 ?_
    refine at_aload_n (pc := 11) C 0 dX8_sign_11 rfl rfl ?_
    refine at_geti (pc := 12) (jz := 2) C fw_8_19 kd1 rfl (Nat.le_of_ble_eq_true rfl) rfl rfl dX8_sign_12 ?_
    refine at_icmp_ge (pc := 15) (tgt := 40) C (ok 1 3) (ok 1 2) dX8_sign_15 rfl (fun c2 => ?_) (fun c2 => ?_)
    · have hF := (if_pos c2).symm.trans hF
      refine at_sub (lv' := []) [] rfl ?_
      exact J40  hF
    · have hF := (if_neg c2).symm.trans hF
      refine at_aload_n (pc := 18) C 0 dX8_sign_18 rfl rfl ?_
      refine at_geti (pc := 19) (jz := 3) C fw_8_22 kd1 rfl (Nat.le_of_ble_eq_true rfl) rfl rfl dX8_sign_19 ?_
      refine at_sipush (pc := 22) C dX8_sign_22 (by decide) ?_
      refine at_icmp_ge (pc := 25) (tgt := 40) C (ok 1 3) (show inR 700 from ⟨by decide, by decide⟩) dX8_sign_25 rfl (fun c3 => ?_) (fun c3 => ?_)
      · have hF := (if_pos c3).symm.trans hF
        refine at_sub (lv' := []) [] rfl ?_
        exact J40  hF
      · have hF := (if_neg c3).symm.trans hF
        refine at_aload_n (pc := 28) C 0 dX8_sign_28 rfl rfl ?_
        refine at_getr (pc := 29) (k' := 2) C 1 fw_8_9 kd1 rfl (Nat.le_of_ble_eq_true rfl) rfl rfl dX8_sign_29 ?_
        refine at_aload_n (pc := 32) C 0 dX8_sign_32 rfl rfl ?_
        refine at_geti (pc := 33) (jz := 3) C fw_8_22 kd1 rfl (Nat.le_of_ble_eq_true rfl) rfl rfl dX8_sign_33 ?_
        obtain ⟨b4, hF⟩ := inb_some hF
        refine at_baload (pc := 36) C kd2 b4 dX8_sign_36 ?_
        refine at_goto (pc := 37) (tgt := 41) C dX8_sign_37 rfl ?_
        obtain rfl := Option.some.inj hF
        exact at_iret (pc := 41) C hr hlk (ok 2 (σ.1 1 3)) ok dX8_sign_41
abbrev rm_X8_isBlank : Room := { frames := 0, cells := 0, slots := 0, locals := 0 }
def F_X8_isBlank_J12 (N : Nat)   (σ : Sto) : Option (Int) :=
  some 1
def F_X8_isBlank (N : Nat) (v0 : Int) (σ : Sto) : Option (Int) :=
  if v0 = 10 then (F_X8_isBlank_J12 N   σ) else (if v0 = 32 then (F_X8_isBlank_J12 N   σ) else (some 0))
set_option maxHeartbeats 4000000 in
set_option maxRecDepth 100000 in
theorem c_X8_isBlank (l : Launch) (g : Geo) (N : Nat) (v0 : Int) (σ : Sto) (res : Int) (h0 : inR v0) (ok : OK σ) (hF : F_X8_isBlank N v0 σ = some res) : MtI l g yX8_isBlank cX8_isBlank 1 (some .boolean) rm_X8_isBlank [vi v0] σ res σ isB := by
  intro sz
  refine Met.ofAt (own := RX8) (QQ := fun z => QI g z res σ isB) (by decide +kernel) (Nat.le_of_ble_eq_true rfl) rfl ?_
  intro p e s m args below meth c C hr hlk
  show At p l e rm_X8_isBlank s m args below meth c 0 0 g 1 (MQ below (QI g s.heap.size res σ isB) args s 0 0 (AA g s.heap.size)) 0 [(0, vi v0)] [] σ
  unfold F_X8_isBlank at hF
  have J12 : F_X8_isBlank_J12 N   σ = some res → At p l e rm_X8_isBlank s m args below meth c 0 0 g 1 (MQ below (QI g s.heap.size res σ isB) args s 0 0 (AA g s.heap.size)) 12 [] [] σ := by
    intro   hF
    unfold F_X8_isBlank_J12 at hF
    refine at_iconst (pc := 12) C dX8_isBlank_12 ?_
    refine at_goto (pc := 13) (tgt := 17) C dX8_isBlank_13 rfl ?_
    obtain rfl := Option.some.inj hF
    exact at_zret (pc := 17) C hr hlk (Or.inr rfl) ok dX8_isBlank_17
  refine at_iload_n (pc := 0) C 0 dX8_isBlank_0 rfl rfl ?_
  refine at_bipush (pc := 1) C dX8_isBlank_1 (by decide) ?_
  refine at_icmp_eq (pc := 3) (tgt := 12) C h0 (show inR 10 from ⟨by decide, by decide⟩) dX8_isBlank_3 rfl (fun c1 => ?_) (fun c1 => ?_)
  · have hF := (if_pos c1).symm.trans hF
    refine at_sub (lv' := []) [] rfl ?_
    exact J12  hF
  · have hF := (if_neg c1).symm.trans hF
    refine at_iload_n (pc := 6) C 0 dX8_isBlank_6 rfl rfl ?_
    refine at_bipush (pc := 7) C dX8_isBlank_7 (by decide) ?_
    refine at_icmp_ne (pc := 9) (tgt := 16) C h0 (show inR 32 from ⟨by decide, by decide⟩) dX8_isBlank_9 rfl (fun c2 => ?_) (fun c2 => ?_)
    · have hF := (if_neg c2).symm.trans hF
      refine at_iconst (pc := 16) C dX8_isBlank_16 ?_
      obtain rfl := Option.some.inj hF
      exact at_zret (pc := 17) C hr hlk (Or.inl rfl) ok dX8_isBlank_17
    · have hF := (if_pos c2).symm.trans hF
      refine at_sub (lv' := []) [] rfl ?_
      exact J12  hF
abbrev rm_X8_isLetter : Room := { frames := 0, cells := 0, slots := 0, locals := 0 }
def F_X8_isLetter_J16 (N : Nat)   (σ : Sto) : Option (Int) :=
  some 0
def F_X8_isLetter (N : Nat) (v0 : Int) (σ : Sto) : Option (Int) :=
  if v0 < 97 then (F_X8_isLetter_J16 N   σ) else (if 122 < v0 then (F_X8_isLetter_J16 N   σ) else (some 1))
set_option maxHeartbeats 4000000 in
set_option maxRecDepth 100000 in
theorem c_X8_isLetter (l : Launch) (g : Geo) (N : Nat) (v0 : Int) (σ : Sto) (res : Int) (h0 : inR v0) (ok : OK σ) (hF : F_X8_isLetter N v0 σ = some res) : MtI l g yX8_isLetter cX8_isLetter 1 (some .boolean) rm_X8_isLetter [vi v0] σ res σ isB := by
  intro sz
  refine Met.ofAt (own := RX8) (QQ := fun z => QI g z res σ isB) (by decide +kernel) (Nat.le_of_ble_eq_true rfl) rfl ?_
  intro p e s m args below meth c C hr hlk
  show At p l e rm_X8_isLetter s m args below meth c 0 0 g 1 (MQ below (QI g s.heap.size res σ isB) args s 0 0 (AA g s.heap.size)) 0 [(0, vi v0)] [] σ
  unfold F_X8_isLetter at hF
  have J16 : F_X8_isLetter_J16 N   σ = some res → At p l e rm_X8_isLetter s m args below meth c 0 0 g 1 (MQ below (QI g s.heap.size res σ isB) args s 0 0 (AA g s.heap.size)) 16 [] [] σ := by
    intro   hF
    unfold F_X8_isLetter_J16 at hF
    refine at_iconst (pc := 16) C dX8_isLetter_16 ?_
    obtain rfl := Option.some.inj hF
    exact at_zret (pc := 17) C hr hlk (Or.inl rfl) ok dX8_isLetter_17
  refine at_iload_n (pc := 0) C 0 dX8_isLetter_0 rfl rfl ?_
  refine at_bipush (pc := 1) C dX8_isLetter_1 (by decide) ?_
  refine at_icmp_lt (pc := 3) (tgt := 16) C h0 (show inR 97 from ⟨by decide, by decide⟩) dX8_isLetter_3 rfl (fun c1 => ?_) (fun c1 => ?_)
  · have hF := (if_pos c1).symm.trans hF
    refine at_sub (lv' := []) [] rfl ?_
    exact J16  hF
  · have hF := (if_neg c1).symm.trans hF
    refine at_iload_n (pc := 6) C 0 dX8_isLetter_6 rfl rfl ?_
    refine at_bipush (pc := 7) C dX8_isLetter_7 (by decide) ?_
    refine at_icmp_gt (pc := 9) (tgt := 16) C h0 (show inR 122 from ⟨by decide, by decide⟩) dX8_isLetter_9 rfl (fun c2 => ?_) (fun c2 => ?_)
    · have hF := (if_pos c2).symm.trans hF
      refine at_sub (lv' := []) [] rfl ?_
      exact J16  hF
    · have hF := (if_neg c2).symm.trans hF
      refine at_iconst (pc := 12) C dX8_isLetter_12 ?_
      refine at_goto (pc := 13) (tgt := 17) C dX8_isLetter_13 rfl ?_
      obtain rfl := Option.some.inj hF
      exact at_zret (pc := 17) C hr hlk (Or.inr rfl) ok dX8_isLetter_17
abbrev rm_X8_readWord : Room := { frames := 1, cells := 0, slots := 0, locals := 20 }
def F_X8_readWord_J125 (N : Nat) (nx90 : (Int × Sto) → Option (Sto)) (v2 : Int) (v3 : Int) (σ : Sto) : Option (Sto) :=
  nx90 ((ja v3 1), σ)
def F_X8_readWord_B90 (N : Nat) (nx90 : (Int × Sto) → Option (Sto)) (v2 : Int) (v3 : Int) (σ : Sto) : Option (Sto) :=
  if (σ.1 1 4) = 2 then (if 7 ≤ v3 then (some σ) else (inb v3 7 (if (lwd v3) = v2 then (F_X8_readWord_J125 N nx90 v2 v3 (upI (upI σ 1 4 1) 1 6 v3)) else (F_X8_readWord_J125 N nx90 v2 v3 σ)))) else (some σ)
def F_X8_readWord_J80 (N : Nat)  (v2 : Int) (t1 : Int) (σ : Sto) : Option (Sto) :=
  loopK (fun q nx90 => F_X8_readWord_B90 N  nx90 v2 q.1 q.2) N (0, (upI (upI σ 1 4 t1) 1 6 v2))
def F_X8_readWord_J67 (N : Nat)  (v1 : Int) (v2 : Int) (σ : Sto) : Option (Sto) :=
  if v1 ≤ 6 then (F_X8_readWord_J80 N  v2 2 σ) else (F_X8_readWord_J80 N  v2 6 σ)
def F_X8_readWord_J48 (N : Nat) (nx6 : (Int × Int × Int × Sto) → Option (Sto)) (v1 : Int) (v2 : Int) (v3 : Int) (σ : Sto) : Option (Sto) :=
  nx6 ((ja v1 1), v2, (ja v3 1), (upI σ 1 3 (ja (σ.1 1 3) 1)))
def F_X8_readWord_B6 (N : Nat) (nx6 : (Int × Int × Int × Sto) → Option (Sto))  (v1 : Int) (v2 : Int) (v3 : Int) (σ : Sto) : Option (Sto) :=
  if 700 ≤ v3 then (F_X8_readWord_J67 N  v1 v2 σ) else ((F_X8_sign N σ).bind (fun q7 => (F_X8_isLetter N q7 σ).bind (fun q8 => if q8 = 0 then (F_X8_readWord_J67 N  v1 v2 σ) else (if 6 ≤ v1 then (F_X8_readWord_J48 N nx6 v1 v2 v3 σ) else ((F_X8_sign N σ).bind (fun q11 => F_X8_readWord_J48 N nx6 v1 (jor v2 (jshl (ja (js q11 97) 1) (js 25 (jm 5 v1)))) v3 σ))))))
def F_X8_readWord (N : Nat)  (σ : Sto) : Option (Sto) :=
  loopK (fun q nx6 => F_X8_readWord_B6 N  nx6  q.1 q.2.1 q.2.2.1 q.2.2.2) N (0, 0, 0, σ)
set_option maxHeartbeats 4000000 in
set_option maxRecDepth 100000 in
theorem c_X8_readWord (l : Launch) (g : Geo) (N : Nat)  (σ : Sto) (res : Sto)  (ok : OK σ) (hF : F_X8_readWord N  σ = some res) : MtV l g yX8_readWord cX8_readWord 4 none rm_X8_readWord [vr g 1] σ res := by
  intro sz
  refine Met.ofAt (own := RX8) (QQ := fun z => QV g z res) (by decide +kernel) (Nat.le_of_ble_eq_true rfl) rfl ?_
  intro p e s m args below meth c C hr hlk
  show At p l e rm_X8_readWord s m args below meth c 0 0 g 4 (MQ below (QV g s.heap.size res) args s 0 0 (AA g s.heap.size)) 0 [(0, vr g 1)] [] σ
  unfold F_X8_readWord at hF
  refine at_iconst (pc := 0) C dX8_readWord_0 ?_
  refine at_istore_n (pc := 1) (lv' := [(1, vi 0), (0, vr g 1)]) C dX8_readWord_1 rfl (Nat.le_of_ble_eq_true rfl) rfl ?_
  refine at_iconst (pc := 2) C dX8_readWord_2 ?_
  refine at_istore_n (pc := 3) (lv' := [(2, vi 0), (1, vi 0), (0, vr g 1)]) C dX8_readWord_3 rfl (Nat.le_of_ble_eq_true rfl) rfl ?_
  refine at_iconst (pc := 4) C dX8_readWord_4 ?_
  refine at_istore_n (pc := 5) (lv' := [(3, vi 0), (2, vi 0), (1, vi 0), (0, vr g 1)]) C dX8_readWord_5 rfl (Nat.le_of_ble_eq_true rfl) rfl ?_
  have L6 : ∀ (v1 : Int) (v2 : Int) (v3 : Int) (σ : Sto), inR v1 → inR v2 → inR v3 → OK σ → loopK (fun q nx6 => F_X8_readWord_B6 N  nx6  q.1 q.2.1 q.2.2.1 q.2.2.2) N (v1, v2, v3, σ) = some res → At p l e rm_X8_readWord s m args below meth c 0 0 g 4 (MQ below (QV g s.heap.size res) args s 0 0 (AA g s.heap.size)) 6 [(0, vr g 1), (1, vi v1), (2, vi v2), (3, vi v3)] [] σ := by
    intro v1 v2 v3 σ h1 h2 h3 ok hF
    refine loopK_ind (res := res) (P := fun (q : Int × Int × Int × Sto) => inR q.1 → inR q.2.1 → inR q.2.2.1 → OK q.2.2.2 → At p l e rm_X8_readWord s m args below meth c 0 0 g 4 (MQ below (QV g s.heap.size res) args s 0 0 (AA g s.heap.size)) 6 [(0, vr g 1), (1, vi q.1), (2, vi q.2.1), (3, vi q.2.2.1)] [] q.2.2.2) ?_ N _ hF h1 h2 h3 ok
    intro nx6 q ih6 hF
    obtain ⟨v1, v2, v3, σ⟩ := q
    intro h1 h2 h3 ok
    have hF : F_X8_readWord_B6 N  nx6  v1 v2 v3 σ = some res := hF
    unfold F_X8_readWord_B6 at hF
    have J67 : ∀ (v1 : Int) (v2 : Int) (σ : Sto), inR v1 → inR v2 → OK σ → F_X8_readWord_J67 N  v1 v2 σ = some res → At p l e rm_X8_readWord s m args below meth c 0 0 g 4 (MQ below (QV g s.heap.size res) args s 0 0 (AA g s.heap.size)) 67 [(0, vr g 1), (1, vi v1), (2, vi v2)] [] σ := by
      intro v1 v2 σ h1 h2 ok hF
      unfold F_X8_readWord_J67 at hF
      have J80 : ∀ (v2 : Int) (t1 : Int) (σ : Sto), inR v2 → inR t1 → OK σ → F_X8_readWord_J80 N  v2 t1 σ = some res → At p l e rm_X8_readWord s m args below meth c 0 0 g 4 (MQ below (QV g s.heap.size res) args s 0 0 (AA g s.heap.size)) 80 [(0, vr g 1), (2, vi v2)] [vi t1, vr g 1] σ := by
        intro v2 t1 σ h2 ht1 ok hF
        unfold F_X8_readWord_J80 at hF
        refine at_puti (pc := 80) (jz := 4) C fu_8_25 kd1 rfl (Nat.le_of_ble_eq_true rfl) rfl rfl dX8_readWord_80 ?_
        refine at_aload_n (pc := 83) C 0 dX8_readWord_83 rfl rfl ?_
        refine at_iload_n (pc := 84) C 1 dX8_readWord_84 rfl rfl ?_
        refine at_puti (pc := 85) (jz := 6) C fu_8_31 kd1 rfl (Nat.le_of_ble_eq_true rfl) rfl rfl dX8_readWord_85 ?_
        refine at_iconst (pc := 88) C dX8_readWord_88 ?_
        refine at_istore_n (pc := 89) (lv' := [(3, vi 0), (0, vr g 1), (2, vi v2)]) C dX8_readWord_89 rfl (Nat.le_of_ble_eq_true rfl) rfl ?_
        have L90 : ∀ (v2 : Int) (v3 : Int) (σ : Sto), inR v2 → inR v3 → OK σ → loopK (fun q nx90 => F_X8_readWord_B90 N  nx90 v2 q.1 q.2) N (v3, σ) = some res → At p l e rm_X8_readWord s m args below meth c 0 0 g 4 (MQ below (QV g s.heap.size res) args s 0 0 (AA g s.heap.size)) 90 [(0, vr g 1), (2, vi v2), (3, vi v3)] [] σ := by
          intro v2 v3 σ h2 h3 ok hF
          refine loopK_ind (res := res) (P := fun (q : Int × Sto) => inR q.1 → OK q.2 → At p l e rm_X8_readWord s m args below meth c 0 0 g 4 (MQ below (QV g s.heap.size res) args s 0 0 (AA g s.heap.size)) 90 [(0, vr g 1), (2, vi v2), (3, vi q.1)] [] q.2) ?_ N _ hF h3 ok
          intro nx90 q ih90 hF
          obtain ⟨v3, σ⟩ := q
          intro h3 ok
          have hF : F_X8_readWord_B90 N  nx90 v2 v3 σ = some res := hF
          unfold F_X8_readWord_B90 at hF
          refine at_aload_n (pc := 90) C 0 dX8_readWord_90 rfl rfl ?_
          refine at_geti (pc := 91) (jz := 4) C fw_8_25 kd1 rfl (Nat.le_of_ble_eq_true rfl) rfl rfl dX8_readWord_91 ?_
          refine at_iconst (pc := 94) C dX8_readWord_94 ?_
          refine at_icmp_ne (pc := 95) (tgt := 131) C (ok 1 4) (show inR 2 from ⟨by decide, by decide⟩) dX8_readWord_95 rfl (fun c1 => ?_) (fun c1 => ?_)
          · have hF := (if_neg c1).symm.trans hF
            obtain rfl := Option.some.inj hF
            exact at_vret (pc := 131) C hr hlk ok dX8_readWord_131
          · have hF := (if_pos c1).symm.trans hF
            refine at_iload_n (pc := 98) C 2 dX8_readWord_98 rfl rfl ?_
            refine at_lwget (pc := 99) C w611 dX8_readWord_99 ?_
            refine at_lwlen (pc := 102) C dX8_readWord_102 ?_
            refine at_icmp_ge (pc := 103) (tgt := 131) C h3 (show inR 7 from ⟨by decide, by decide⟩) dX8_readWord_103 rfl (fun c2 => ?_) (fun c2 => ?_)
            · have hF := (if_pos c2).symm.trans hF
              obtain rfl := Option.some.inj hF
              exact at_vret (pc := 131) C hr hlk ok dX8_readWord_131
            · have hF := (if_neg c2).symm.trans hF
              have J125 : ∀ (v3 : Int) (σ : Sto), inR v3 → OK σ → F_X8_readWord_J125 N nx90 v2 v3 σ = some res → At p l e rm_X8_readWord s m args below meth c 0 0 g 4 (MQ below (QV g s.heap.size res) args s 0 0 (AA g s.heap.size)) 125 [(0, vr g 1), (2, vi v2), (3, vi v3)] [] σ := by
                intro v3 σ h3 ok hF
                unfold F_X8_readWord_J125 at hF
                refine at_iinc (pc := 125) (lv' := [(3, vi (ja v3 1)), (0, vr g 1), (2, vi v2)]) C 2 dX8_readWord_125 rfl (Nat.le_of_ble_eq_true rfl) rfl ?_
                refine at_goto (pc := 128) (tgt := 90) C dX8_readWord_128 rfl ?_
                refine at_sub (lv' := [(0, vr g 1), (2, vi v2), (3, vi (ja v3 1))]) [1, 2, 0] rfl ?_
                exact ih90 _ hF (ja_R v3 1) ok
              refine at_lwget (pc := 106) C w611 dX8_readWord_106 ?_
              refine at_iload_n (pc := 109) C 2 dX8_readWord_109 rfl rfl ?_
              obtain ⟨b3, hF⟩ := inb_some hF
              refine at_lwld (pc := 110) C b3 dX8_readWord_110 ?_
              refine at_iload_n (pc := 111) C 1 dX8_readWord_111 rfl rfl ?_
              refine at_icmp_ne (pc := 112) (tgt := 125) C (lwd_R v3) h2 dX8_readWord_112 rfl (fun c4 => ?_) (fun c4 => ?_)
              · have hF := (if_neg c4).symm.trans hF
                exact J125 v3 σ h3 ok hF
              · have hF := (if_pos c4).symm.trans hF
                refine at_aload_n (pc := 115) C 0 dX8_readWord_115 rfl rfl ?_
                refine at_iconst (pc := 116) C dX8_readWord_116 ?_
                refine at_puti (pc := 117) (jz := 4) C fu_8_25 kd1 rfl (Nat.le_of_ble_eq_true rfl) rfl rfl dX8_readWord_117 ?_
                refine at_aload_n (pc := 120) C 0 dX8_readWord_120 rfl rfl ?_
                refine at_iload_n (pc := 121) C 2 dX8_readWord_121 rfl rfl ?_
                refine at_puti (pc := 122) (jz := 6) C fu_8_31 kd1 rfl (Nat.le_of_ble_eq_true rfl) rfl rfl dX8_readWord_122 ?_
                exact J125 v3 (upI (upI σ 1 4 1) 1 6 v3) h3 (OK_up (k := 1) (j := 6) (OK_up (k := 1) (j := 4) ok (isB.r (Or.inr rfl))) h3) hF
        refine at_sub (lv' := [(0, vr g 1), (2, vi v2), (3, vi 0)]) [1, 2, 0] rfl ?_
        exact L90 v2 0 (upI (upI σ 1 4 t1) 1 6 v2) h2 (isB.r (Or.inl rfl)) (OK_up (k := 1) (j := 6) (OK_up (k := 1) (j := 4) ok ht1) h2) hF
      refine at_aload_n (pc := 67) C 0 dX8_readWord_67 rfl rfl ?_
      refine at_iload_n (pc := 68) C 1 dX8_readWord_68 rfl rfl ?_
      refine at_bipush (pc := 69) C dX8_readWord_69 (by decide) ?_
      refine at_icmp_le (pc := 71) (tgt := 79) C h1 (show inR 6 from ⟨by decide, by decide⟩) dX8_readWord_71 rfl (fun c5 => ?_) (fun c5 => ?_)
      · have hF := (if_pos c5).symm.trans hF
        refine at_iconst (pc := 79) C dX8_readWord_79 ?_
        refine at_sub (lv' := [(0, vr g 1), (2, vi v2)]) [0, 2] rfl ?_
        exact J80 v2 2 σ h2 (show inR 2 from ⟨by decide, by decide⟩) ok hF
      · have hF := (if_neg c5).symm.trans hF
        refine at_bipush (pc := 74) C dX8_readWord_74 (by decide) ?_
        refine at_goto (pc := 76) (tgt := 80) C dX8_readWord_76 rfl ?_
        refine at_sub (lv' := [(0, vr g 1), (2, vi v2)]) [0, 2] rfl ?_
        exact J80 v2 6 σ h2 (show inR 6 from ⟨by decide, by decide⟩) ok hF
    refine at_iload_n (pc := 6) C 3 dX8_readWord_6 rfl rfl ?_
    refine at_sipush (pc := 7) C dX8_readWord_7 (by decide) ?_
    refine at_icmp_ge (pc := 10) (tgt := 67) C h3 (show inR 700 from ⟨by decide, by decide⟩) dX8_readWord_10 rfl (fun c6 => ?_) (fun c6 => ?_)
    · have hF := (if_pos c6).symm.trans hF
      refine at_sub (lv' := [(0, vr g 1), (1, vi v1), (2, vi v2)]) [0, 1, 2] rfl ?_
      exact J67 v1 v2 σ h1 h2 ok hF
    · have hF := (if_neg c6).symm.trans hF
      refine at_aload_n (pc := 13) C 0 dX8_readWord_13 rfl rfl ?_
      obtain ⟨q7, eq7, hF⟩ := bind_some' hF
      refine at_callV (pc := 14) (ci := 8) C (c_X8_sign l g N  σ q7  ok eq7) kv_X8_sign w597 kd1 rfl rfl rfl rfl (Nat.le_of_ble_eq_true rfl) ⟨rfl, rfl, (Nat.le_of_ble_eq_true rfl), (Nat.le_of_ble_eq_true rfl)⟩ dX8_readWord_14 (fun tq7 okq7 => ?_)
      obtain ⟨q8, eq8, hF⟩ := bind_some' hF
      refine at_callS (pc := 17) C (c_X8_isLetter l g N q7 σ q8 tq7 ok eq8) ks_X8_isLetter w604 rfl rfl (Nat.le_of_ble_eq_true rfl) ⟨rfl, rfl, (Nat.le_of_ble_eq_true rfl), (Nat.le_of_ble_eq_true rfl)⟩ dX8_readWord_17 (fun tq8 okq8 => ?_)
      refine at_if_eq (pc := 20) (tgt := 67) C (isB.r tq8) dX8_readWord_20 rfl (fun c9 => ?_) (fun c9 => ?_)
      · have hF := (if_pos c9).symm.trans hF
        refine at_sub (lv' := [(0, vr g 1), (1, vi v1), (2, vi v2)]) [0, 1, 2] rfl ?_
        exact J67 v1 v2 σ h1 h2 ok hF
      · have hF := (if_neg c9).symm.trans hF
        have J48 : ∀ (v1 : Int) (v2 : Int) (v3 : Int) (σ : Sto), inR v1 → inR v2 → inR v3 → OK σ → F_X8_readWord_J48 N nx6 v1 v2 v3 σ = some res → At p l e rm_X8_readWord s m args below meth c 0 0 g 4 (MQ below (QV g s.heap.size res) args s 0 0 (AA g s.heap.size)) 48 [(0, vr g 1), (1, vi v1), (2, vi v2), (3, vi v3)] [] σ := by
          intro v1 v2 v3 σ h1 h2 h3 ok hF
          unfold F_X8_readWord_J48 at hF
          refine at_iinc (pc := 48) (lv' := [(1, vi (ja v1 1)), (0, vr g 1), (2, vi v2), (3, vi v3)]) C 1 dX8_readWord_48 rfl (Nat.le_of_ble_eq_true rfl) rfl ?_
          refine at_aload_n (pc := 51) C 1 dX8_readWord_51 rfl rfl ?_
          refine at_dup (pc := 52) C dX8_readWord_52 rfl ?_
          refine at_geti (pc := 53) (jz := 3) C fw_8_22 kd1 rfl (Nat.le_of_ble_eq_true rfl) rfl rfl dX8_readWord_53 ?_
          refine at_iconst (pc := 56) C dX8_readWord_56 ?_
          refine at_iadd (pc := 57) C dX8_readWord_57 ?_
          refine at_puti (pc := 58) (jz := 3) C fu_8_22 kd1 rfl (Nat.le_of_ble_eq_true rfl) rfl rfl dX8_readWord_58 ?_
          refine at_iinc (pc := 61) (lv' := [(3, vi (ja v3 1)), (1, vi (ja v1 1)), (0, vr g 1), (2, vi v2)]) C 3 dX8_readWord_61 rfl (Nat.le_of_ble_eq_true rfl) rfl ?_
          refine at_goto (pc := 64) (tgt := 6) C dX8_readWord_64 rfl ?_
          refine at_sub (lv' := [(0, vr g 1), (1, vi (ja v1 1)), (2, vi v2), (3, vi (ja v3 1))]) [2, 1, 3, 0] rfl ?_
          exact ih6 _ hF (ja_R v1 1) h2 (ja_R v3 1) (OK_up (k := 1) (j := 3) ok (ja_R (σ.1 1 3) 1))
        refine at_iload_n (pc := 23) C 1 dX8_readWord_23 rfl rfl ?_
        refine at_bipush (pc := 24) C dX8_readWord_24 (by decide) ?_
        refine at_icmp_ge (pc := 26) (tgt := 48) C h1 (show inR 6 from ⟨by decide, by decide⟩) dX8_readWord_26 rfl (fun c10 => ?_) (fun c10 => ?_)
        · have hF := (if_pos c10).symm.trans hF
          exact J48 v1 v2 v3 σ h1 h2 h3 ok hF
        · have hF := (if_neg c10).symm.trans hF
          refine at_iload_n (pc := 29) C 2 dX8_readWord_29 rfl rfl ?_
          refine at_aload_n (pc := 30) C 0 dX8_readWord_30 rfl rfl ?_
          obtain ⟨q11, eq11, hF⟩ := bind_some' hF
          refine at_callV (pc := 31) (ci := 8) C (c_X8_sign l g N  σ q11  ok eq11) kv_X8_sign w597 kd1 rfl rfl rfl rfl (Nat.le_of_ble_eq_true rfl) ⟨rfl, rfl, (Nat.le_of_ble_eq_true rfl), (Nat.le_of_ble_eq_true rfl)⟩ dX8_readWord_31 (fun tq11 okq11 => ?_)
          refine at_bipush (pc := 34) C dX8_readWord_34 (by decide) ?_
          refine at_isub (pc := 36) C dX8_readWord_36 ?_
          refine at_iconst (pc := 37) C dX8_readWord_37 ?_
          refine at_iadd (pc := 38) C dX8_readWord_38 ?_
          refine at_bipush (pc := 39) C dX8_readWord_39 (by decide) ?_
          refine at_iconst (pc := 41) C dX8_readWord_41 ?_
          refine at_iload_n (pc := 42) C 1 dX8_readWord_42 rfl rfl ?_
          refine at_imul (pc := 43) C dX8_readWord_43 ?_
          refine at_isub (pc := 44) C dX8_readWord_44 ?_
          refine at_ishl (pc := 45) C dX8_readWord_45 ?_
          refine at_ior (pc := 46) C dX8_readWord_46 ?_
          refine at_istore_n (pc := 47) (lv' := [(2, vi (jor v2 (jshl (ja (js q11 97) 1) (js 25 (jm 5 v1))))), (0, vr g 1), (1, vi v1), (3, vi v3)]) C dX8_readWord_47 rfl (Nat.le_of_ble_eq_true rfl) rfl ?_
          refine at_sub (lv' := [(0, vr g 1), (1, vi v1), (2, vi (jor v2 (jshl (ja (js q11 97) 1) (js 25 (jm 5 v1))))), (3, vi v3)]) [1, 2, 0, 3] rfl ?_
          exact J48 v1 (jor v2 (jshl (ja (js q11 97) 1) (js 25 (jm 5 v1)))) v3 σ h1 (jor_R v2 (jshl (ja (js q11 97) 1) (js 25 (jm 5 v1)))) h3 ok hF
  refine at_sub (lv' := [(0, vr g 1), (1, vi 0), (2, vi 0), (3, vi 0)]) [3, 2, 1, 0] rfl ?_
  exact L6 0 0 0 σ (isB.r (Or.inl rfl)) (isB.r (Or.inl rfl)) (isB.r (Or.inl rfl)) ok hF
abbrev rm_X8_isDigit : Room := { frames := 0, cells := 0, slots := 0, locals := 0 }
def F_X8_isDigit_J16 (N : Nat)   (σ : Sto) : Option (Int) :=
  some 0
def F_X8_isDigit (N : Nat) (v0 : Int) (σ : Sto) : Option (Int) :=
  if v0 < 48 then (F_X8_isDigit_J16 N   σ) else (if 57 < v0 then (F_X8_isDigit_J16 N   σ) else (some 1))
set_option maxHeartbeats 4000000 in
set_option maxRecDepth 100000 in
theorem c_X8_isDigit (l : Launch) (g : Geo) (N : Nat) (v0 : Int) (σ : Sto) (res : Int) (h0 : inR v0) (ok : OK σ) (hF : F_X8_isDigit N v0 σ = some res) : MtI l g yX8_isDigit cX8_isDigit 1 (some .boolean) rm_X8_isDigit [vi v0] σ res σ isB := by
  intro sz
  refine Met.ofAt (own := RX8) (QQ := fun z => QI g z res σ isB) (by decide +kernel) (Nat.le_of_ble_eq_true rfl) rfl ?_
  intro p e s m args below meth c C hr hlk
  show At p l e rm_X8_isDigit s m args below meth c 0 0 g 1 (MQ below (QI g s.heap.size res σ isB) args s 0 0 (AA g s.heap.size)) 0 [(0, vi v0)] [] σ
  unfold F_X8_isDigit at hF
  have J16 : F_X8_isDigit_J16 N   σ = some res → At p l e rm_X8_isDigit s m args below meth c 0 0 g 1 (MQ below (QI g s.heap.size res σ isB) args s 0 0 (AA g s.heap.size)) 16 [] [] σ := by
    intro   hF
    unfold F_X8_isDigit_J16 at hF
    refine at_iconst (pc := 16) C dX8_isDigit_16 ?_
    obtain rfl := Option.some.inj hF
    exact at_zret (pc := 17) C hr hlk (Or.inl rfl) ok dX8_isDigit_17
  refine at_iload_n (pc := 0) C 0 dX8_isDigit_0 rfl rfl ?_
  refine at_bipush (pc := 1) C dX8_isDigit_1 (by decide) ?_
  refine at_icmp_lt (pc := 3) (tgt := 16) C h0 (show inR 48 from ⟨by decide, by decide⟩) dX8_isDigit_3 rfl (fun c1 => ?_) (fun c1 => ?_)
  · have hF := (if_pos c1).symm.trans hF
    refine at_sub (lv' := []) [] rfl ?_
    exact J16  hF
  · have hF := (if_neg c1).symm.trans hF
    refine at_iload_n (pc := 6) C 0 dX8_isDigit_6 rfl rfl ?_
    refine at_bipush (pc := 7) C dX8_isDigit_7 (by decide) ?_
    refine at_icmp_gt (pc := 9) (tgt := 16) C h0 (show inR 57 from ⟨by decide, by decide⟩) dX8_isDigit_9 rfl (fun c2 => ?_) (fun c2 => ?_)
    · have hF := (if_pos c2).symm.trans hF
      refine at_sub (lv' := []) [] rfl ?_
      exact J16  hF
    · have hF := (if_neg c2).symm.trans hF
      refine at_iconst (pc := 12) C dX8_isDigit_12 ?_
      refine at_goto (pc := 13) (tgt := 17) C dX8_isDigit_13 rfl ?_
      obtain rfl := Option.some.inj hF
      exact at_zret (pc := 17) C hr hlk (Or.inr rfl) ok dX8_isDigit_17
abbrev rm_X8_readNumber : Room := { frames := 1, cells := 0, slots := 0, locals := 20 }
def F_X8_readNumber_J114 (N : Nat)  (v1 : Int) (v2 : Int) (σ : Sto) : Option (Sto) :=
  if v1 = 0 then (some (upI σ 1 6 v2)) else (some (upI σ 1 6 (jneg v2)))
def F_X8_readNumber_J98 (N : Nat) (nx62 : (Int × Int × Sto) → Option (Sto)) (v1 : Int) (v2 : Int) (v3 : Int) (σ : Sto) : Option (Sto) :=
  nx62 (v2, (ja v3 1), (upI σ 1 3 (ja (σ.1 1 3) 1)))
def F_X8_readNumber_B62 (N : Nat) (nx62 : (Int × Int × Sto) → Option (Sto)) (v1 : Int) (v2 : Int) (v3 : Int) (σ : Sto) : Option (Sto) :=
  if 700 ≤ v3 then (F_X8_readNumber_J114 N  v1 v2 σ) else ((F_X8_sign N σ).bind (fun q3 => (F_X8_isDigit N q3 σ).bind (fun q4 => if q4 = 0 then (F_X8_readNumber_J114 N  v1 v2 σ) else (if 1000000 ≤ v2 then (F_X8_readNumber_J98 N nx62 v1 v2 v3 σ) else ((F_X8_sign N σ).bind (fun q7 => F_X8_readNumber_J98 N nx62 v1 (js (ja (jm v2 10) q7) 48) v3 σ))))))
def F_X8_readNumber_J58 (N : Nat)  (v1 : Int) (σ : Sto) : Option (Sto) :=
  loopK (fun q nx62 => F_X8_readNumber_B62 N  nx62 v1 q.1 q.2.1 q.2.2) N (0, 0, σ)
def F_X8_readNumber_J39 (N : Nat)  (v1 : Int) (t1 : Int) (σ : Sto) : Option (Sto) :=
  (F_X8_sign N (upI σ 1 4 t1)).bind (fun q8 => (F_X8_isDigit N q8 (upI σ 1 4 t1)).bind (fun q9 => if q9 = 0 then (F_X8_readNumber_J58 N  v1 (upI (upI σ 1 4 t1) 1 4 6)) else (F_X8_readNumber_J58 N  v1 (upI σ 1 4 t1))))
def F_X8_readNumber_J29 (N : Nat)  (v1 : Int) (σ : Sto) : Option (Sto) :=
  if v1 = 0 then (F_X8_readNumber_J39 N  v1 3 σ) else (F_X8_readNumber_J39 N  v1 4 σ)
def F_X8_readNumber_J14 (N : Nat)  (t0 : Int) (σ : Sto) : Option (Sto) :=
  if t0 = 0 then (F_X8_readNumber_J29 N  t0 σ) else (F_X8_readNumber_J29 N  t0 (upI σ 1 3 (ja (σ.1 1 3) 1)))
def F_X8_readNumber (N : Nat)  (σ : Sto) : Option (Sto) :=
  (F_X8_sign N σ).bind (fun q13 => if q13 = 45 then (F_X8_readNumber_J14 N  1 σ) else (F_X8_readNumber_J14 N  0 σ))
set_option maxHeartbeats 4000000 in
set_option maxRecDepth 100000 in
theorem c_X8_readNumber (l : Launch) (g : Geo) (N : Nat)  (σ : Sto) (res : Sto)  (ok : OK σ) (hF : F_X8_readNumber N  σ = some res) : MtV l g yX8_readNumber cX8_readNumber 4 none rm_X8_readNumber [vr g 1] σ res := by
  intro sz
  refine Met.ofAt (own := RX8) (QQ := fun z => QV g z res) (by decide +kernel) (Nat.le_of_ble_eq_true rfl) rfl ?_
  intro p e s m args below meth c C hr hlk
  show At p l e rm_X8_readNumber s m args below meth c 0 0 g 4 (MQ below (QV g s.heap.size res) args s 0 0 (AA g s.heap.size)) 0 [(0, vr g 1)] [] σ
  unfold F_X8_readNumber at hF
  have J14 : ∀ (t0 : Int) (σ : Sto), isB t0 → OK σ → F_X8_readNumber_J14 N  t0 σ = some res → At p l e rm_X8_readNumber s m args below meth c 0 0 g 4 (MQ below (QV g s.heap.size res) args s 0 0 (AA g s.heap.size)) 14 [(0, vr g 1)] [vi t0] σ := by
    intro t0 σ ht0 ok hF
    unfold F_X8_readNumber_J14 at hF
    have J29 : ∀ (v1 : Int) (σ : Sto), isB v1 → OK σ → F_X8_readNumber_J29 N  v1 σ = some res → At p l e rm_X8_readNumber s m args below meth c 0 0 g 4 (MQ below (QV g s.heap.size res) args s 0 0 (AA g s.heap.size)) 29 [(0, vr g 1), (1, vi v1)] [] σ := by
      intro v1 σ h1 ok hF
      unfold F_X8_readNumber_J29 at hF
      have J39 : ∀ (v1 : Int) (t1 : Int) (σ : Sto), isB v1 → inR t1 → OK σ → F_X8_readNumber_J39 N  v1 t1 σ = some res → At p l e rm_X8_readNumber s m args below meth c 0 0 g 4 (MQ below (QV g s.heap.size res) args s 0 0 (AA g s.heap.size)) 39 [(0, vr g 1), (1, vi v1)] [vi t1, vr g 1] σ := by
        intro v1 t1 σ h1 ht1 ok hF
        unfold F_X8_readNumber_J39 at hF
        have J58 : ∀ (v1 : Int) (σ : Sto), isB v1 → OK σ → F_X8_readNumber_J58 N  v1 σ = some res → At p l e rm_X8_readNumber s m args below meth c 0 0 g 4 (MQ below (QV g s.heap.size res) args s 0 0 (AA g s.heap.size)) 58 [(0, vr g 1), (1, vi v1)] [] σ := by
          intro v1 σ h1 ok hF
          unfold F_X8_readNumber_J58 at hF
          refine at_iconst (pc := 58) C dX8_readNumber_58 ?_
          refine at_istore_n (pc := 59) (lv' := [(2, vi 0), (0, vr g 1), (1, vi v1)]) C dX8_readNumber_59 rfl (Nat.le_of_ble_eq_true rfl) rfl ?_
          refine at_iconst (pc := 60) C dX8_readNumber_60 ?_
          refine at_istore_n (pc := 61) (lv' := [(3, vi 0), (2, vi 0), (0, vr g 1), (1, vi v1)]) C dX8_readNumber_61 rfl (Nat.le_of_ble_eq_true rfl) rfl ?_
          have L62 : ∀ (v1 : Int) (v2 : Int) (v3 : Int) (σ : Sto), isB v1 → inR v2 → inR v3 → OK σ → loopK (fun q nx62 => F_X8_readNumber_B62 N  nx62 v1 q.1 q.2.1 q.2.2) N (v2, v3, σ) = some res → At p l e rm_X8_readNumber s m args below meth c 0 0 g 4 (MQ below (QV g s.heap.size res) args s 0 0 (AA g s.heap.size)) 62 [(0, vr g 1), (1, vi v1), (2, vi v2), (3, vi v3)] [] σ := by
            intro v1 v2 v3 σ h1 h2 h3 ok hF
            refine loopK_ind (res := res) (P := fun (q : Int × Int × Sto) => inR q.1 → inR q.2.1 → OK q.2.2 → At p l e rm_X8_readNumber s m args below meth c 0 0 g 4 (MQ below (QV g s.heap.size res) args s 0 0 (AA g s.heap.size)) 62 [(0, vr g 1), (1, vi v1), (2, vi q.1), (3, vi q.2.1)] [] q.2.2) ?_ N _ hF h2 h3 ok
            intro nx62 q ih62 hF
            obtain ⟨v2, v3, σ⟩ := q
            intro h2 h3 ok
            have hF : F_X8_readNumber_B62 N  nx62 v1 v2 v3 σ = some res := hF
            unfold F_X8_readNumber_B62 at hF
            have J114 : ∀ (v1 : Int) (v2 : Int) (σ : Sto), isB v1 → inR v2 → OK σ → F_X8_readNumber_J114 N  v1 v2 σ = some res → At p l e rm_X8_readNumber s m args below meth c 0 0 g 4 (MQ below (QV g s.heap.size res) args s 0 0 (AA g s.heap.size)) 114 [(0, vr g 1), (1, vi v1), (2, vi v2)] [] σ := by
              intro v1 v2 σ h1 h2 ok hF
              unfold F_X8_readNumber_J114 at hF
              refine at_aload_n (pc := 114) C 0 dX8_readNumber_114 rfl rfl ?_
              refine at_iload_n (pc := 115) C 1 dX8_readNumber_115 rfl rfl ?_
              refine at_if_eq (pc := 116) (tgt := 124) C (isB.r h1) dX8_readNumber_116 rfl (fun c1 => ?_) (fun c1 => ?_)
              · have hF := (if_pos c1).symm.trans hF
                refine at_iload_n (pc := 124) C 2 dX8_readNumber_124 rfl rfl ?_
                refine at_puti (pc := 125) (jz := 6) C fu_8_31 kd1 rfl (Nat.le_of_ble_eq_true rfl) rfl rfl dX8_readNumber_125 ?_
                obtain rfl := Option.some.inj hF
                exact at_vret (pc := 128) C hr hlk (OK_up (k := 1) (j := 6) ok h2) dX8_readNumber_128
              · have hF := (if_neg c1).symm.trans hF
                refine at_iload_n (pc := 119) C 2 dX8_readNumber_119 rfl rfl ?_
                refine at_ineg (pc := 120) C dX8_readNumber_120 ?_
                refine at_goto (pc := 121) (tgt := 125) C dX8_readNumber_121 rfl ?_
                refine at_puti (pc := 125) (jz := 6) C fu_8_31 kd1 rfl (Nat.le_of_ble_eq_true rfl) rfl rfl dX8_readNumber_125 ?_
                obtain rfl := Option.some.inj hF
                exact at_vret (pc := 128) C hr hlk (OK_up (k := 1) (j := 6) ok (jneg_R v2)) dX8_readNumber_128
            refine at_iload_n (pc := 62) C 3 dX8_readNumber_62 rfl rfl ?_
            refine at_sipush (pc := 63) C dX8_readNumber_63 (by decide) ?_
            refine at_icmp_ge (pc := 66) (tgt := 114) C h3 (show inR 700 from ⟨by decide, by decide⟩) dX8_readNumber_66 rfl (fun c2 => ?_) (fun c2 => ?_)
            · have hF := (if_pos c2).symm.trans hF
              refine at_sub (lv' := [(0, vr g 1), (1, vi v1), (2, vi v2)]) [0, 1, 2] rfl ?_
              exact J114 v1 v2 σ h1 h2 ok hF
            · have hF := (if_neg c2).symm.trans hF
              refine at_aload_n (pc := 69) C 0 dX8_readNumber_69 rfl rfl ?_
              obtain ⟨q3, eq3, hF⟩ := bind_some' hF
              refine at_callV (pc := 70) (ci := 8) C (c_X8_sign l g N  σ q3  ok eq3) kv_X8_sign w597 kd1 rfl rfl rfl rfl (Nat.le_of_ble_eq_true rfl) ⟨rfl, rfl, (Nat.le_of_ble_eq_true rfl), (Nat.le_of_ble_eq_true rfl)⟩ dX8_readNumber_70 (fun tq3 okq3 => ?_)
              obtain ⟨q4, eq4, hF⟩ := bind_some' hF
              refine at_callS (pc := 73) C (c_X8_isDigit l g N q3 σ q4 tq3 ok eq4) ks_X8_isDigit w613 rfl rfl (Nat.le_of_ble_eq_true rfl) ⟨rfl, rfl, (Nat.le_of_ble_eq_true rfl), (Nat.le_of_ble_eq_true rfl)⟩ dX8_readNumber_73 (fun tq4 okq4 => ?_)
              refine at_if_eq (pc := 76) (tgt := 114) C (isB.r tq4) dX8_readNumber_76 rfl (fun c5 => ?_) (fun c5 => ?_)
              · have hF := (if_pos c5).symm.trans hF
                refine at_sub (lv' := [(0, vr g 1), (1, vi v1), (2, vi v2)]) [0, 1, 2] rfl ?_
                exact J114 v1 v2 σ h1 h2 ok hF
              · have hF := (if_neg c5).symm.trans hF
                have J98 : ∀ (v2 : Int) (v3 : Int) (σ : Sto), inR v2 → inR v3 → OK σ → F_X8_readNumber_J98 N nx62 v1 v2 v3 σ = some res → At p l e rm_X8_readNumber s m args below meth c 0 0 g 4 (MQ below (QV g s.heap.size res) args s 0 0 (AA g s.heap.size)) 98 [(0, vr g 1), (1, vi v1), (2, vi v2), (3, vi v3)] [] σ := by
                  intro v2 v3 σ h2 h3 ok hF
                  unfold F_X8_readNumber_J98 at hF
                  refine at_aload_n (pc := 98) C 0 dX8_readNumber_98 rfl rfl ?_
                  refine at_dup (pc := 99) C dX8_readNumber_99 rfl ?_
                  refine at_geti (pc := 100) (jz := 3) C fw_8_22 kd1 rfl (Nat.le_of_ble_eq_true rfl) rfl rfl dX8_readNumber_100 ?_
                  refine at_iconst (pc := 103) C dX8_readNumber_103 ?_
                  refine at_iadd (pc := 104) C dX8_readNumber_104 ?_
                  refine at_puti (pc := 105) (jz := 3) C fu_8_22 kd1 rfl (Nat.le_of_ble_eq_true rfl) rfl rfl dX8_readNumber_105 ?_
                  refine at_iinc (pc := 108) (lv' := [(3, vi (ja v3 1)), (0, vr g 1), (1, vi v1), (2, vi v2)]) C 3 dX8_readNumber_108 rfl (Nat.le_of_ble_eq_true rfl) rfl ?_
                  refine at_goto (pc := 111) (tgt := 62) C dX8_readNumber_111 rfl ?_
                  refine at_sub (lv' := [(0, vr g 1), (1, vi v1), (2, vi v2), (3, vi (ja v3 1))]) [1, 2, 3, 0] rfl ?_
                  exact ih62 _ hF h2 (ja_R v3 1) (OK_up (k := 1) (j := 3) ok (ja_R (σ.1 1 3) 1))
                refine at_iload_n (pc := 79) C 2 dX8_readNumber_79 rfl rfl ?_
                refine at_ldc (pc := 80) (n := 1000000) C dX8_readNumber_80 w620 ?_
                refine at_icmp_ge (pc := 82) (tgt := 98) C h2 (show inR 1000000 from ⟨by decide, by decide⟩) dX8_readNumber_82 rfl (fun c6 => ?_) (fun c6 => ?_)
                · have hF := (if_pos c6).symm.trans hF
                  exact J98 v2 v3 σ h2 h3 ok hF
                · have hF := (if_neg c6).symm.trans hF
                  refine at_iload_n (pc := 85) C 2 dX8_readNumber_85 rfl rfl ?_
                  refine at_bipush (pc := 86) C dX8_readNumber_86 (by decide) ?_
                  refine at_imul (pc := 88) C dX8_readNumber_88 ?_
                  refine at_aload_n (pc := 89) C 0 dX8_readNumber_89 rfl rfl ?_
                  obtain ⟨q7, eq7, hF⟩ := bind_some' hF
                  refine at_callV (pc := 90) (ci := 8) C (c_X8_sign l g N  σ q7  ok eq7) kv_X8_sign w597 kd1 rfl rfl rfl rfl (Nat.le_of_ble_eq_true rfl) ⟨rfl, rfl, (Nat.le_of_ble_eq_true rfl), (Nat.le_of_ble_eq_true rfl)⟩ dX8_readNumber_90 (fun tq7 okq7 => ?_)
                  refine at_iadd (pc := 93) C dX8_readNumber_93 ?_
                  refine at_bipush (pc := 94) C dX8_readNumber_94 (by decide) ?_
                  refine at_isub (pc := 96) C dX8_readNumber_96 ?_
                  refine at_istore_n (pc := 97) (lv' := [(2, vi (js (ja (jm v2 10) q7) 48)), (0, vr g 1), (1, vi v1), (3, vi v3)]) C dX8_readNumber_97 rfl (Nat.le_of_ble_eq_true rfl) rfl ?_
                  refine at_sub (lv' := [(0, vr g 1), (1, vi v1), (2, vi (js (ja (jm v2 10) q7) 48)), (3, vi v3)]) [1, 2, 0, 3] rfl ?_
                  exact J98 (js (ja (jm v2 10) q7) 48) v3 σ (js_R (ja (jm v2 10) q7) 48) h3 ok hF
          refine at_sub (lv' := [(0, vr g 1), (1, vi v1), (2, vi 0), (3, vi 0)]) [2, 3, 1, 0] rfl ?_
          exact L62 v1 0 0 σ h1 (isB.r (Or.inl rfl)) (isB.r (Or.inl rfl)) ok hF
        refine at_puti (pc := 39) (jz := 4) C fu_8_25 kd1 rfl (Nat.le_of_ble_eq_true rfl) rfl rfl dX8_readNumber_39 ?_
        refine at_aload_n (pc := 42) C 0 dX8_readNumber_42 rfl rfl ?_
        obtain ⟨q8, eq8, hF⟩ := bind_some' hF
        refine at_callV (pc := 43) (ci := 8) C (c_X8_sign l g N  (upI σ 1 4 t1) q8  (OK_up (k := 1) (j := 4) ok ht1) eq8) kv_X8_sign w597 kd1 rfl rfl rfl rfl (Nat.le_of_ble_eq_true rfl) ⟨rfl, rfl, (Nat.le_of_ble_eq_true rfl), (Nat.le_of_ble_eq_true rfl)⟩ dX8_readNumber_43 (fun tq8 okq8 => ?_)
        obtain ⟨q9, eq9, hF⟩ := bind_some' hF
        refine at_callS (pc := 46) C (c_X8_isDigit l g N q8 (upI σ 1 4 t1) q9 tq8 (OK_up (k := 1) (j := 4) ok ht1) eq9) ks_X8_isDigit w613 rfl rfl (Nat.le_of_ble_eq_true rfl) ⟨rfl, rfl, (Nat.le_of_ble_eq_true rfl), (Nat.le_of_ble_eq_true rfl)⟩ dX8_readNumber_46 (fun tq9 okq9 => ?_)
        refine at_if_ne (pc := 49) (tgt := 58) C (isB.r tq9) dX8_readNumber_49 rfl (fun c10 => ?_) (fun c10 => ?_)
        · have hF := (if_neg c10).symm.trans hF
          exact J58 v1 (upI σ 1 4 t1) h1 (OK_up (k := 1) (j := 4) ok ht1) hF
        · have hF := (if_pos c10).symm.trans hF
          refine at_aload_n (pc := 52) C 0 dX8_readNumber_52 rfl rfl ?_
          refine at_bipush (pc := 53) C dX8_readNumber_53 (by decide) ?_
          refine at_puti (pc := 55) (jz := 4) C fu_8_25 kd1 rfl (Nat.le_of_ble_eq_true rfl) rfl rfl dX8_readNumber_55 ?_
          exact J58 v1 (upI (upI σ 1 4 t1) 1 4 6) h1 (OK_up (k := 1) (j := 4) (OK_up (k := 1) (j := 4) ok ht1) (show inR 6 from ⟨by decide, by decide⟩)) hF
      refine at_aload_n (pc := 29) C 0 dX8_readNumber_29 rfl rfl ?_
      refine at_iload_n (pc := 30) C 1 dX8_readNumber_30 rfl rfl ?_
      refine at_if_eq (pc := 31) (tgt := 38) C (isB.r h1) dX8_readNumber_31 rfl (fun c11 => ?_) (fun c11 => ?_)
      · have hF := (if_pos c11).symm.trans hF
        refine at_iconst (pc := 38) C dX8_readNumber_38 ?_
        exact J39 v1 3 σ h1 (show inR 3 from ⟨by decide, by decide⟩) ok hF
      · have hF := (if_neg c11).symm.trans hF
        refine at_iconst (pc := 34) C dX8_readNumber_34 ?_
        refine at_goto (pc := 35) (tgt := 39) C dX8_readNumber_35 rfl ?_
        exact J39 v1 4 σ h1 (show inR 4 from ⟨by decide, by decide⟩) ok hF
    refine at_istore_n (pc := 14) (lv' := [(1, vi t0), (0, vr g 1)]) C dX8_readNumber_14 rfl (Nat.le_of_ble_eq_true rfl) rfl ?_
    refine at_iload_n (pc := 15) C 0 dX8_readNumber_15 rfl rfl ?_
    refine at_if_eq (pc := 16) (tgt := 29) C (isB.r ht0) dX8_readNumber_16 rfl (fun c12 => ?_) (fun c12 => ?_)
    · have hF := (if_pos c12).symm.trans hF
      refine at_sub (lv' := [(0, vr g 1), (1, vi t0)]) [1, 0] rfl ?_
      exact J29 t0 σ ht0 ok hF
    · have hF := (if_neg c12).symm.trans hF
      refine at_aload_n (pc := 19) C 1 dX8_readNumber_19 rfl rfl ?_
      refine at_dup (pc := 20) C dX8_readNumber_20 rfl ?_
      refine at_geti (pc := 21) (jz := 3) C fw_8_22 kd1 rfl (Nat.le_of_ble_eq_true rfl) rfl rfl dX8_readNumber_21 ?_
      refine at_iconst (pc := 24) C dX8_readNumber_24 ?_
      refine at_iadd (pc := 25) C dX8_readNumber_25 ?_
      refine at_puti (pc := 26) (jz := 3) C fu_8_22 kd1 rfl (Nat.le_of_ble_eq_true rfl) rfl rfl dX8_readNumber_26 ?_
      refine at_sub (lv' := [(0, vr g 1), (1, vi t0)]) [1, 0] rfl ?_
      exact J29 t0 (upI σ 1 3 (ja (σ.1 1 3) 1)) ht0 (OK_up (k := 1) (j := 3) ok (ja_R (σ.1 1 3) 1)) hF
  refine at_aload_n (pc := 0) C 0 dX8_readNumber_0 rfl rfl ?_
  obtain ⟨q13, eq13, hF⟩ := bind_some' hF
  refine at_callV (pc := 1) (ci := 8) C (c_X8_sign l g N  σ q13  ok eq13) kv_X8_sign w597 kd1 rfl rfl rfl rfl (Nat.le_of_ble_eq_true rfl) ⟨rfl, rfl, (Nat.le_of_ble_eq_true rfl), (Nat.le_of_ble_eq_true rfl)⟩ dX8_readNumber_1 (fun tq13 okq13 => ?_)
  refine at_bipush (pc := 4) C dX8_readNumber_4 (by decide) ?_
  refine at_icmp_ne (pc := 6) (tgt := 13) C tq13 (show inR 45 from ⟨by decide, by decide⟩) dX8_readNumber_6 rfl (fun c14 => ?_) (fun c14 => ?_)
  · have hF := (if_neg c14).symm.trans hF
    refine at_iconst (pc := 13) C dX8_readNumber_13 ?_
    exact J14 0 σ (Or.inl rfl) ok hF
  · have hF := (if_pos c14).symm.trans hF
    refine at_iconst (pc := 9) C dX8_readNumber_9 ?_
    refine at_goto (pc := 10) (tgt := 14) C dX8_readNumber_10 rfl ?_
    exact J14 1 σ (Or.inr rfl) ok hF
abbrev rm_X8_next : Room := { frames := 2, cells := 0, slots := 0, locals := 43 }
def F_X8_next_J94 (N : Nat)   (σ : Sto) : Option (Sto) :=
  (F_X8_readNumber N σ).bind (fun q5 => some q5)
def F_X8_next_J114 (N : Nat)  (t1 : Int) (σ : Sto) : Option (Sto) :=
  some (upI (upI σ 1 4 t1) 1 3 (ja ((upI σ 1 4 t1).1 1 3) 1))
def F_X8_next_J35 (N : Nat)   (σ : Sto) : Option (Sto) :=
  (F_X8_sign N (upI σ 1 5 (σ.1 1 3))).bind (fun q1 => if ((upI σ 1 5 (σ.1 1 3)).1 1 3) < ((upI σ 1 5 (σ.1 1 3)).1 1 2) then ((F_X8_isLetter N q1 (upI σ 1 5 (σ.1 1 3))).bind (fun q3 => if q3 = 0 then ((F_X8_isDigit N q1 (upI σ 1 5 (σ.1 1 3))).bind (fun q6 => if q6 = 0 then (if q1 = 45 then (F_X8_next_J94 N   (upI σ 1 5 (σ.1 1 3))) else (if q1 = 59 then (F_X8_next_J114 N  5 (upI σ 1 5 (σ.1 1 3))) else (F_X8_next_J114 N  6 (upI σ 1 5 (σ.1 1 3))))) else (F_X8_next_J94 N   (upI σ 1 5 (σ.1 1 3))))) else ((F_X8_readWord N (upI σ 1 5 (σ.1 1 3))).bind (fun q10 => some q10)))) else (some (upI (upI σ 1 5 (σ.1 1 3)) 1 4 0)))
def F_X8_next_B2 (N : Nat) (nx2 : (Int × Sto) → Option (Sto))  (v1 : Int) (σ : Sto) : Option (Sto) :=
  if 700 ≤ v1 then (F_X8_next_J35 N   σ) else ((F_X8_sign N σ).bind (fun q12 => (F_X8_isBlank N q12 σ).bind (fun q13 => if q13 = 0 then (F_X8_next_J35 N   σ) else (nx2 ((ja v1 1), (upI σ 1 3 (ja (σ.1 1 3) 1)))))))
def F_X8_next (N : Nat)  (σ : Sto) : Option (Sto) :=
  loopK (fun q nx2 => F_X8_next_B2 N  nx2  q.1 q.2) N (0, σ)
set_option maxHeartbeats 4000000 in
set_option maxRecDepth 100000 in
theorem c_X8_next (l : Launch) (g : Geo) (N : Nat)  (σ : Sto) (res : Sto)  (ok : OK σ) (hF : F_X8_next N  σ = some res) : MtV l g yX8_next cX8_next 2 none rm_X8_next [vr g 1] σ res := by
  intro sz
  refine Met.ofAt (own := RX8) (QQ := fun z => QV g z res) (by decide +kernel) (Nat.le_of_ble_eq_true rfl) rfl ?_
  intro p e s m args below meth c C hr hlk
  show At p l e rm_X8_next s m args below meth c 0 0 g 2 (MQ below (QV g s.heap.size res) args s 0 0 (AA g s.heap.size)) 0 [(0, vr g 1)] [] σ
  unfold F_X8_next at hF
  refine at_iconst (pc := 0) C dX8_next_0 ?_
  refine at_istore_n (pc := 1) (lv' := [(1, vi 0), (0, vr g 1)]) C dX8_next_1 rfl (Nat.le_of_ble_eq_true rfl) rfl ?_
  have L2 : ∀ (v1 : Int) (σ : Sto), inR v1 → OK σ → loopK (fun q nx2 => F_X8_next_B2 N  nx2  q.1 q.2) N (v1, σ) = some res → At p l e rm_X8_next s m args below meth c 0 0 g 2 (MQ below (QV g s.heap.size res) args s 0 0 (AA g s.heap.size)) 2 [(0, vr g 1), (1, vi v1)] [] σ := by
    intro v1 σ h1 ok hF
    refine loopK_ind (res := res) (P := fun (q : Int × Sto) => inR q.1 → OK q.2 → At p l e rm_X8_next s m args below meth c 0 0 g 2 (MQ below (QV g s.heap.size res) args s 0 0 (AA g s.heap.size)) 2 [(0, vr g 1), (1, vi q.1)] [] q.2) ?_ N _ hF h1 ok
    intro nx2 q ih2 hF
    obtain ⟨v1, σ⟩ := q
    intro h1 ok
    have hF : F_X8_next_B2 N  nx2  v1 σ = some res := hF
    unfold F_X8_next_B2 at hF
    have J35 : ∀  (σ : Sto), OK σ → F_X8_next_J35 N   σ = some res → At p l e rm_X8_next s m args below meth c 0 0 g 2 (MQ below (QV g s.heap.size res) args s 0 0 (AA g s.heap.size)) 35 [(0, vr g 1)] [] σ := by
      intro σ ok hF
      unfold F_X8_next_J35 at hF
      refine at_aload_n (pc := 35) C 0 dX8_next_35 rfl rfl ?_
      refine at_aload_n (pc := 36) C 0 dX8_next_36 rfl rfl ?_
      refine at_geti (pc := 37) (jz := 3) C fw_8_22 kd1 rfl (Nat.le_of_ble_eq_true rfl) rfl rfl dX8_next_37 ?_
      refine at_puti (pc := 40) (jz := 5) C fu_8_28 kd1 rfl (Nat.le_of_ble_eq_true rfl) rfl rfl dX8_next_40 ?_
      refine at_aload_n (pc := 43) C 0 dX8_next_43 rfl rfl ?_
      obtain ⟨q1, eq1, hF⟩ := bind_some' hF
      refine at_callV (pc := 44) (ci := 8) C (c_X8_sign l g N  (upI σ 1 5 (σ.1 1 3)) q1  (OK_up (k := 1) (j := 5) ok (ok 1 3)) eq1) kv_X8_sign w597 kd1 rfl rfl rfl rfl (Nat.le_of_ble_eq_true rfl) ⟨rfl, rfl, (Nat.le_of_ble_eq_true rfl), (Nat.le_of_ble_eq_true rfl)⟩ dX8_next_44 (fun tq1 okq1 => ?_)
      refine at_istore_n (pc := 47) (lv' := [(1, vi q1), (0, vr g 1)]) C dX8_next_47 rfl (Nat.le_of_ble_eq_true rfl) rfl ?_
      refine at_aload_n (pc := 48) C 1 dX8_next_48 rfl rfl ?_
      refine at_geti (pc := 49) (jz := 3) C fw_8_22 kd1 rfl (Nat.le_of_ble_eq_true rfl) rfl rfl dX8_next_49 ?_
      refine at_aload_n (pc := 52) C 1 dX8_next_52 rfl rfl ?_
      refine at_geti (pc := 53) (jz := 2) C fw_8_19 kd1 rfl (Nat.le_of_ble_eq_true rfl) rfl rfl dX8_next_53 ?_
      refine at_icmp_lt (pc := 56) (tgt := 67) C ((OK_up (k := 1) (j := 5) ok (ok 1 3)) 1 3) ((OK_up (k := 1) (j := 5) ok (ok 1 3)) 1 2) dX8_next_56 rfl (fun c2 => ?_) (fun c2 => ?_)
      · have hF := (if_pos c2).symm.trans hF
        refine at_iload_n (pc := 67) C 0 dX8_next_67 rfl rfl ?_
        obtain ⟨q3, eq3, hF⟩ := bind_some' hF
        refine at_callS (pc := 68) C (c_X8_isLetter l g N q1 (upI σ 1 5 (σ.1 1 3)) q3 tq1 (OK_up (k := 1) (j := 5) ok (ok 1 3)) eq3) ks_X8_isLetter w604 rfl rfl (Nat.le_of_ble_eq_true rfl) ⟨rfl, rfl, (Nat.le_of_ble_eq_true rfl), (Nat.le_of_ble_eq_true rfl)⟩ dX8_next_68 (fun tq3 okq3 => ?_)
        refine at_if_eq (pc := 71) (tgt := 81) C (isB.r tq3) dX8_next_71 rfl (fun c4 => ?_) (fun c4 => ?_)
        · have hF := (if_pos c4).symm.trans hF
          have J94 : ∀  (σ : Sto), OK σ → F_X8_next_J94 N   σ = some res → At p l e rm_X8_next s m args below meth c 0 0 g 2 (MQ below (QV g s.heap.size res) args s 0 0 (AA g s.heap.size)) 94 [(0, vr g 1)] [] σ := by
            intro σ ok hF
            unfold F_X8_next_J94 at hF
            refine at_aload_n (pc := 94) C 0 dX8_next_94 rfl rfl ?_
            obtain ⟨q5, eq5, hF⟩ := bind_some' hF
            refine at_callVv (pc := 95) (ci := 8) C (c_X8_readNumber l g N  σ q5  ok eq5) kv_X8_readNumber w616 kd1 rfl rfl rfl rfl (Nat.le_of_ble_eq_true rfl) ⟨rfl, rfl, (Nat.le_of_ble_eq_true rfl), (Nat.le_of_ble_eq_true rfl)⟩ dX8_next_95 (fun okq5 => ?_)
            refine at_goto (pc := 98) (tgt := 127) C dX8_next_98 rfl ?_
            obtain rfl := Option.some.inj hF
            exact at_vret (pc := 127) C hr hlk okq5 dX8_next_127
          refine at_iload_n (pc := 81) C 0 dX8_next_81 rfl rfl ?_
          obtain ⟨q6, eq6, hF⟩ := bind_some' hF
          refine at_callS (pc := 82) C (c_X8_isDigit l g N q1 (upI σ 1 5 (σ.1 1 3)) q6 tq1 (OK_up (k := 1) (j := 5) ok (ok 1 3)) eq6) ks_X8_isDigit w613 rfl rfl (Nat.le_of_ble_eq_true rfl) ⟨rfl, rfl, (Nat.le_of_ble_eq_true rfl), (Nat.le_of_ble_eq_true rfl)⟩ dX8_next_82 (fun tq6 okq6 => ?_)
          refine at_if_ne (pc := 85) (tgt := 94) C (isB.r tq6) dX8_next_85 rfl (fun c7 => ?_) (fun c7 => ?_)
          · have hF := (if_neg c7).symm.trans hF
            refine at_sub (lv' := [(0, vr g 1)]) [1] rfl ?_
            exact J94 (upI σ 1 5 (σ.1 1 3)) (OK_up (k := 1) (j := 5) ok (ok 1 3)) hF
          · have hF := (if_pos c7).symm.trans hF
            refine at_iload_n (pc := 88) C 0 dX8_next_88 rfl rfl ?_
            refine at_bipush (pc := 89) C dX8_next_89 (by decide) ?_
            refine at_icmp_ne (pc := 91) (tgt := 101) C tq1 (show inR 45 from ⟨by decide, by decide⟩) dX8_next_91 rfl (fun c8 => ?_) (fun c8 => ?_)
            · have hF := (if_neg c8).symm.trans hF
              have J114 : ∀ (t1 : Int) (σ : Sto), inR t1 → OK σ → F_X8_next_J114 N  t1 σ = some res → At p l e rm_X8_next s m args below meth c 0 0 g 2 (MQ below (QV g s.heap.size res) args s 0 0 (AA g s.heap.size)) 114 [(0, vr g 1)] [vi t1, vr g 1] σ := by
                intro t1 σ ht1 ok hF
                unfold F_X8_next_J114 at hF
                refine at_puti (pc := 114) (jz := 4) C fu_8_25 kd1 rfl (Nat.le_of_ble_eq_true rfl) rfl rfl dX8_next_114 ?_
                refine at_aload_n (pc := 117) C 0 dX8_next_117 rfl rfl ?_
                refine at_dup (pc := 118) C dX8_next_118 rfl ?_
                refine at_geti (pc := 119) (jz := 3) C fw_8_22 kd1 rfl (Nat.le_of_ble_eq_true rfl) rfl rfl dX8_next_119 ?_
                refine at_iconst (pc := 122) C dX8_next_122 ?_
                refine at_iadd (pc := 123) C dX8_next_123 ?_
                refine at_puti (pc := 124) (jz := 3) C fu_8_22 kd1 rfl (Nat.le_of_ble_eq_true rfl) rfl rfl dX8_next_124 ?_
                obtain rfl := Option.some.inj hF
                exact at_vret (pc := 127) C hr hlk (OK_up (k := 1) (j := 3) (OK_up (k := 1) (j := 4) ok ht1) (ja_R ((upI σ 1 4 t1).1 1 3) 1)) dX8_next_127
              refine at_aload_n (pc := 101) C 1 dX8_next_101 rfl rfl ?_
              refine at_iload_n (pc := 102) C 0 dX8_next_102 rfl rfl ?_
              refine at_bipush (pc := 103) C dX8_next_103 (by decide) ?_
              refine at_icmp_ne (pc := 105) (tgt := 112) C tq1 (show inR 59 from ⟨by decide, by decide⟩) dX8_next_105 rfl (fun c9 => ?_) (fun c9 => ?_)
              · have hF := (if_neg c9).symm.trans hF
                refine at_bipush (pc := 112) C dX8_next_112 (by decide) ?_
                refine at_sub (lv' := [(0, vr g 1)]) [1] rfl ?_
                exact J114 6 (upI σ 1 5 (σ.1 1 3)) (show inR 6 from ⟨by decide, by decide⟩) (OK_up (k := 1) (j := 5) ok (ok 1 3)) hF
              · have hF := (if_pos c9).symm.trans hF
                refine at_iconst (pc := 108) C dX8_next_108 ?_
                refine at_goto (pc := 109) (tgt := 114) C dX8_next_109 rfl ?_
                refine at_sub (lv' := [(0, vr g 1)]) [1] rfl ?_
                exact J114 5 (upI σ 1 5 (σ.1 1 3)) (show inR 5 from ⟨by decide, by decide⟩) (OK_up (k := 1) (j := 5) ok (ok 1 3)) hF
            · have hF := (if_pos c8).symm.trans hF
              refine at_sub (lv' := [(0, vr g 1)]) [1] rfl ?_
              exact J94 (upI σ 1 5 (σ.1 1 3)) (OK_up (k := 1) (j := 5) ok (ok 1 3)) hF
        · have hF := (if_neg c4).symm.trans hF
          refine at_aload_n (pc := 74) C 1 dX8_next_74 rfl rfl ?_
          obtain ⟨q10, eq10, hF⟩ := bind_some' hF
          refine at_callVv (pc := 75) (ci := 8) C (c_X8_readWord l g N  (upI σ 1 5 (σ.1 1 3)) q10  (OK_up (k := 1) (j := 5) ok (ok 1 3)) eq10) kv_X8_readWord w607 kd1 rfl rfl rfl rfl (Nat.le_of_ble_eq_true rfl) ⟨rfl, rfl, (Nat.le_of_ble_eq_true rfl), (Nat.le_of_ble_eq_true rfl)⟩ dX8_next_75 (fun okq10 => ?_)
          refine at_goto (pc := 78) (tgt := 127) C dX8_next_78 rfl ?_
          obtain rfl := Option.some.inj hF
          exact at_vret (pc := 127) C hr hlk okq10 dX8_next_127
      · have hF := (if_neg c2).symm.trans hF
        refine at_aload_n (pc := 59) C 1 dX8_next_59 rfl rfl ?_
        refine at_iconst (pc := 60) C dX8_next_60 ?_
        refine at_puti (pc := 61) (jz := 4) C fu_8_25 kd1 rfl (Nat.le_of_ble_eq_true rfl) rfl rfl dX8_next_61 ?_
        refine at_goto (pc := 64) (tgt := 127) C dX8_next_64 rfl ?_
        obtain rfl := Option.some.inj hF
        exact at_vret (pc := 127) C hr hlk (OK_up (k := 1) (j := 4) (OK_up (k := 1) (j := 5) ok (ok 1 3)) (isB.r (Or.inl rfl))) dX8_next_127
    refine at_iload_n (pc := 2) C 1 dX8_next_2 rfl rfl ?_
    refine at_sipush (pc := 3) C dX8_next_3 (by decide) ?_
    refine at_icmp_ge (pc := 6) (tgt := 35) C h1 (show inR 700 from ⟨by decide, by decide⟩) dX8_next_6 rfl (fun c11 => ?_) (fun c11 => ?_)
    · have hF := (if_pos c11).symm.trans hF
      refine at_sub (lv' := [(0, vr g 1)]) [0] rfl ?_
      exact J35 σ ok hF
    · have hF := (if_neg c11).symm.trans hF
      refine at_aload_n (pc := 9) C 0 dX8_next_9 rfl rfl ?_
      obtain ⟨q12, eq12, hF⟩ := bind_some' hF
      refine at_callV (pc := 10) (ci := 8) C (c_X8_sign l g N  σ q12  ok eq12) kv_X8_sign w597 kd1 rfl rfl rfl rfl (Nat.le_of_ble_eq_true rfl) ⟨rfl, rfl, (Nat.le_of_ble_eq_true rfl), (Nat.le_of_ble_eq_true rfl)⟩ dX8_next_10 (fun tq12 okq12 => ?_)
      obtain ⟨q13, eq13, hF⟩ := bind_some' hF
      refine at_callS (pc := 13) C (c_X8_isBlank l g N q12 σ q13 tq12 ok eq13) ks_X8_isBlank w601 rfl rfl (Nat.le_of_ble_eq_true rfl) ⟨rfl, rfl, (Nat.le_of_ble_eq_true rfl), (Nat.le_of_ble_eq_true rfl)⟩ dX8_next_13 (fun tq13 okq13 => ?_)
      refine at_if_eq (pc := 16) (tgt := 35) C (isB.r tq13) dX8_next_16 rfl (fun c14 => ?_) (fun c14 => ?_)
      · have hF := (if_pos c14).symm.trans hF
        refine at_sub (lv' := [(0, vr g 1)]) [0] rfl ?_
        exact J35 σ ok hF
      · have hF := (if_neg c14).symm.trans hF
        refine at_aload_n (pc := 19) C 0 dX8_next_19 rfl rfl ?_
        refine at_dup (pc := 20) C dX8_next_20 rfl ?_
        refine at_geti (pc := 21) (jz := 3) C fw_8_22 kd1 rfl (Nat.le_of_ble_eq_true rfl) rfl rfl dX8_next_21 ?_
        refine at_iconst (pc := 24) C dX8_next_24 ?_
        refine at_iadd (pc := 25) C dX8_next_25 ?_
        refine at_puti (pc := 26) (jz := 3) C fu_8_22 kd1 rfl (Nat.le_of_ble_eq_true rfl) rfl rfl dX8_next_26 ?_
        refine at_iinc (pc := 29) (lv' := [(1, vi (ja v1 1)), (0, vr g 1)]) C 1 dX8_next_29 rfl (Nat.le_of_ble_eq_true rfl) rfl ?_
        refine at_goto (pc := 32) (tgt := 2) C dX8_next_32 rfl ?_
        refine at_sub (lv' := [(0, vr g 1), (1, vi (ja v1 1))]) [1, 0] rfl ?_
        exact ih2 _ hF (ja_R v1 1) (OK_up (k := 1) (j := 3) ok (ja_R (σ.1 1 3) 1))
  refine at_sub (lv' := [(0, vr g 1), (1, vi 0)]) [1, 0] rfl ?_
  exact L2 0 σ (isB.r (Or.inl rfl)) ok hF
abbrev rm_X8_fail : Room := { frames := 0, cells := 0, slots := 0, locals := 0 }
def F_X8_fail (N : Nat) (v1 : Int) (σ : Sto) : Option (Int × Sto) :=
  some (0, (upI (upI σ 1 9 v1) 1 10 ((upI σ 1 9 v1).1 1 5)))
set_option maxHeartbeats 4000000 in
set_option maxRecDepth 100000 in
theorem c_X8_fail (l : Launch) (g : Geo) (N : Nat) (v1 : Int) (σ : Sto) (res : Int × Sto) (h1 : inR v1) (ok : OK σ) (hF : F_X8_fail N v1 σ = some res) : MtI l g yX8_fail cX8_fail 2 (some .boolean) rm_X8_fail [vr g 1, vi v1] σ res.1 res.2 isB := by
  intro sz
  refine Met.ofAt (own := RX8) (QQ := fun z => QI g z res.1 res.2 isB) (by decide +kernel) (Nat.le_of_ble_eq_true rfl) rfl ?_
  intro p e s m args below meth c C hr hlk
  show At p l e rm_X8_fail s m args below meth c 0 0 g 2 (MQ below (QI g s.heap.size res.1 res.2 isB) args s 0 0 (AA g s.heap.size)) 0 [(0, vr g 1), (1, vi v1)] [] σ
  unfold F_X8_fail at hF
  refine at_aload_n (pc := 0) C 0 dX8_fail_0 rfl rfl ?_
  refine at_iload_n (pc := 1) C 1 dX8_fail_1 rfl rfl ?_
  refine at_puti (pc := 2) (jz := 9) C fu_8_40 kd1 rfl (Nat.le_of_ble_eq_true rfl) rfl rfl dX8_fail_2 ?_
  refine at_aload_n (pc := 5) C 0 dX8_fail_5 rfl rfl ?_
  refine at_aload_n (pc := 6) C 0 dX8_fail_6 rfl rfl ?_
  refine at_geti (pc := 7) (jz := 5) C fw_8_28 kd1 rfl (Nat.le_of_ble_eq_true rfl) rfl rfl dX8_fail_7 ?_
  refine at_puti (pc := 10) (jz := 10) C fu_8_43 kd1 rfl (Nat.le_of_ble_eq_true rfl) rfl rfl dX8_fail_10 ?_
  refine at_iconst (pc := 13) C dX8_fail_13 ?_
  obtain rfl := Option.some.inj hF
  exact at_zret (pc := 14) C hr hlk (Or.inl rfl) (OK_up (k := 1) (j := 10) (OK_up (k := 1) (j := 9) ok h1) ((OK_up (k := 1) (j := 9) ok h1) 1 5)) dX8_fail_14
abbrev rm_X8_expect : Room := { frames := 3, cells := 0, slots := 0, locals := 64 }
def F_X8_expect_J20 (N : Nat)   (σ : Sto) : Option (Int × Sto) :=
  some (1, σ)
def F_X8_expect (N : Nat) (v1 : Int) (σ : Sto) : Option (Int × Sto) :=
  (F_X8_next N σ).bind (fun q1 => if (q1.1 1 4) = v1 then (F_X8_expect_J20 N   q1) else ((F_X8_fail N 1 q1).bind (fun q3 => if q3.1 = 0 then (some (0, q3.2)) else (F_X8_expect_J20 N   q3.2))))
set_option maxHeartbeats 4000000 in
set_option maxRecDepth 100000 in
theorem c_X8_expect (l : Launch) (g : Geo) (N : Nat) (v1 : Int) (σ : Sto) (res : Int × Sto) (h1 : inR v1) (ok : OK σ) (hF : F_X8_expect N v1 σ = some res) : MtI l g yX8_expect cX8_expect 2 (some .boolean) rm_X8_expect [vr g 1, vi v1] σ res.1 res.2 isB := by
  intro sz
  refine Met.ofAt (own := RX8) (QQ := fun z => QI g z res.1 res.2 isB) (by decide +kernel) (Nat.le_of_ble_eq_true rfl) rfl ?_
  intro p e s m args below meth c C hr hlk
  show At p l e rm_X8_expect s m args below meth c 0 0 g 2 (MQ below (QI g s.heap.size res.1 res.2 isB) args s 0 0 (AA g s.heap.size)) 0 [(0, vr g 1), (1, vi v1)] [] σ
  unfold F_X8_expect at hF
  have J20 : ∀  (σ : Sto), OK σ → F_X8_expect_J20 N   σ = some res → At p l e rm_X8_expect s m args below meth c 0 0 g 2 (MQ below (QI g s.heap.size res.1 res.2 isB) args s 0 0 (AA g s.heap.size)) 20 [] [] σ := by
    intro σ ok hF
    unfold F_X8_expect_J20 at hF
    refine at_iconst (pc := 20) C dX8_expect_20 ?_
    refine at_goto (pc := 21) (tgt := 25) C dX8_expect_21 rfl ?_
    obtain rfl := Option.some.inj hF
    exact at_zret (pc := 25) C hr hlk (Or.inr rfl) ok dX8_expect_25
  refine at_aload_n (pc := 0) C 0 dX8_expect_0 rfl rfl ?_
  obtain ⟨q1, eq1, hF⟩ := bind_some' hF
  refine at_callVv (pc := 1) (ci := 8) C (c_X8_next l g N  σ q1  ok eq1) kv_X8_next w593 kd1 rfl rfl rfl rfl (Nat.le_of_ble_eq_true rfl) ⟨rfl, rfl, (Nat.le_of_ble_eq_true rfl), (Nat.le_of_ble_eq_true rfl)⟩ dX8_expect_1 (fun okq1 => ?_)
  refine at_aload_n (pc := 4) C 0 dX8_expect_4 rfl rfl ?_
  refine at_geti (pc := 5) (jz := 4) C fw_8_25 kd1 rfl (Nat.le_of_ble_eq_true rfl) rfl rfl dX8_expect_5 ?_
  refine at_iload_n (pc := 8) C 1 dX8_expect_8 rfl rfl ?_
  refine at_icmp_eq (pc := 9) (tgt := 20) C (okq1 1 4) h1 dX8_expect_9 rfl (fun c2 => ?_) (fun c2 => ?_)
  · have hF := (if_pos c2).symm.trans hF
    refine at_sub (lv' := []) [] rfl ?_
    exact J20 q1 okq1 hF
  · have hF := (if_neg c2).symm.trans hF
    refine at_aload_n (pc := 12) C 0 dX8_expect_12 rfl rfl ?_
    refine at_iconst (pc := 13) C dX8_expect_13 ?_
    obtain ⟨q3, eq3, hF⟩ := bind_some' hF
    refine at_callV (pc := 14) (ci := 8) C (c_X8_fail l g N 1 q1 q3 (isB.r (Or.inr rfl)) okq1 eq3) kv_X8_fail w625 kd1 rfl rfl rfl rfl (Nat.le_of_ble_eq_true rfl) ⟨rfl, rfl, (Nat.le_of_ble_eq_true rfl), (Nat.le_of_ble_eq_true rfl)⟩ dX8_expect_14 (fun tq3 okq3 => ?_)
    refine at_if_eq (pc := 17) (tgt := 24) C (isB.r tq3) dX8_expect_17 rfl (fun c4 => ?_) (fun c4 => ?_)
    · have hF := (if_pos c4).symm.trans hF
      refine at_iconst (pc := 24) C dX8_expect_24 ?_
      obtain rfl := Option.some.inj hF
      exact at_zret (pc := 25) C hr hlk (Or.inl rfl) okq3 dX8_expect_25
    · have hF := (if_neg c4).symm.trans hF
      refine at_sub (lv' := []) [] rfl ?_
      exact J20 q3.2 okq3 hF
abbrev rm_X8_expectNumber : Room := { frames := 3, cells := 0, slots := 0, locals := 64 }
def F_X8_expectNumber_J54 (N : Nat)   (σ : Sto) : Option (Int × Sto) :=
  some (1, σ)
def F_X8_expectNumber_J46 (N : Nat)   (σ : Sto) : Option (Int × Sto) :=
  (F_X8_fail N 2 σ).bind (fun q1 => if q1.1 = 0 then (some (0, q1.2)) else (F_X8_expectNumber_J54 N   q1.2))
def F_X8_expectNumber_J30 (N : Nat)  (v1 : Int) (v2 : Int) (σ : Sto) : Option (Int × Sto) :=
  if (σ.1 1 6) < v1 then (F_X8_expectNumber_J46 N   σ) else (if (σ.1 1 6) ≤ v2 then (F_X8_expectNumber_J54 N   σ) else (F_X8_expectNumber_J46 N   σ))
def F_X8_expectNumber_J24 (N : Nat)   (σ : Sto) : Option (Int × Sto) :=
  (F_X8_fail N 1 σ).bind (fun q7 => some (q7.1, q7.2))
def F_X8_expectNumber (N : Nat) (v1 : Int) (v2 : Int) (σ : Sto) : Option (Int × Sto) :=
  (F_X8_next N σ).bind (fun q5 => if (q5.1 1 4) = 3 then (F_X8_expectNumber_J30 N  v1 v2 q5) else (if (q5.1 1 4) = 4 then (if v1 < 0 then (F_X8_expectNumber_J30 N  v1 v2 q5) else (F_X8_expectNumber_J24 N   q5)) else (F_X8_expectNumber_J24 N   q5)))
set_option maxHeartbeats 4000000 in
set_option maxRecDepth 100000 in
theorem c_X8_expectNumber (l : Launch) (g : Geo) (N : Nat) (v1 : Int) (v2 : Int) (σ : Sto) (res : Int × Sto) (h1 : inR v1) (h2 : inR v2) (ok : OK σ) (hF : F_X8_expectNumber N v1 v2 σ = some res) : MtI l g yX8_expectNumber cX8_expectNumber 3 (some .boolean) rm_X8_expectNumber [vr g 1, vi v1, vi v2] σ res.1 res.2 isB := by
  intro sz
  refine Met.ofAt (own := RX8) (QQ := fun z => QI g z res.1 res.2 isB) (by decide +kernel) (Nat.le_of_ble_eq_true rfl) rfl ?_
  intro p e s m args below meth c C hr hlk
  show At p l e rm_X8_expectNumber s m args below meth c 0 0 g 3 (MQ below (QI g s.heap.size res.1 res.2 isB) args s 0 0 (AA g s.heap.size)) 0 [(0, vr g 1), (1, vi v1), (2, vi v2)] [] σ
  unfold F_X8_expectNumber at hF
  have J30 : ∀ (v1 : Int) (v2 : Int) (σ : Sto), inR v1 → inR v2 → OK σ → F_X8_expectNumber_J30 N  v1 v2 σ = some res → At p l e rm_X8_expectNumber s m args below meth c 0 0 g 3 (MQ below (QI g s.heap.size res.1 res.2 isB) args s 0 0 (AA g s.heap.size)) 30 [(0, vr g 1), (1, vi v1), (2, vi v2)] [] σ := by
    intro v1 v2 σ h1 h2 ok hF
    unfold F_X8_expectNumber_J30 at hF
    have J54 : ∀  (σ : Sto), OK σ → F_X8_expectNumber_J54 N   σ = some res → At p l e rm_X8_expectNumber s m args below meth c 0 0 g 3 (MQ below (QI g s.heap.size res.1 res.2 isB) args s 0 0 (AA g s.heap.size)) 54 [] [] σ := by
      intro σ ok hF
      unfold F_X8_expectNumber_J54 at hF
      refine at_iconst (pc := 54) C dX8_expectNumber_54 ?_
      refine at_goto (pc := 55) (tgt := 59) C dX8_expectNumber_55 rfl ?_
      obtain rfl := Option.some.inj hF
      exact at_zret (pc := 59) C hr hlk (Or.inr rfl) ok dX8_expectNumber_59
    have J46 : ∀  (σ : Sto), OK σ → F_X8_expectNumber_J46 N   σ = some res → At p l e rm_X8_expectNumber s m args below meth c 0 0 g 3 (MQ below (QI g s.heap.size res.1 res.2 isB) args s 0 0 (AA g s.heap.size)) 46 [(0, vr g 1)] [] σ := by
      intro σ ok hF
      unfold F_X8_expectNumber_J46 at hF
      refine at_aload_n (pc := 46) C 0 dX8_expectNumber_46 rfl rfl ?_
      refine at_iconst (pc := 47) C dX8_expectNumber_47 ?_
      obtain ⟨q1, eq1, hF⟩ := bind_some' hF
      refine at_callV (pc := 48) (ci := 8) C (c_X8_fail l g N 2 σ q1 (show inR 2 from ⟨by decide, by decide⟩) ok eq1) kv_X8_fail w625 kd1 rfl rfl rfl rfl (Nat.le_of_ble_eq_true rfl) ⟨rfl, rfl, (Nat.le_of_ble_eq_true rfl), (Nat.le_of_ble_eq_true rfl)⟩ dX8_expectNumber_48 (fun tq1 okq1 => ?_)
      refine at_if_eq (pc := 51) (tgt := 58) C (isB.r tq1) dX8_expectNumber_51 rfl (fun c2 => ?_) (fun c2 => ?_)
      · have hF := (if_pos c2).symm.trans hF
        refine at_iconst (pc := 58) C dX8_expectNumber_58 ?_
        obtain rfl := Option.some.inj hF
        exact at_zret (pc := 59) C hr hlk (Or.inl rfl) okq1 dX8_expectNumber_59
      · have hF := (if_neg c2).symm.trans hF
        refine at_sub (lv' := []) [] rfl ?_
        exact J54 q1.2 okq1 hF
    refine at_aload_n (pc := 30) C 0 dX8_expectNumber_30 rfl rfl ?_
    refine at_geti (pc := 31) (jz := 6) C fw_8_31 kd1 rfl (Nat.le_of_ble_eq_true rfl) rfl rfl dX8_expectNumber_31 ?_
    refine at_iload_n (pc := 34) C 1 dX8_expectNumber_34 rfl rfl ?_
    refine at_icmp_lt (pc := 35) (tgt := 46) C (ok 1 6) h1 dX8_expectNumber_35 rfl (fun c3 => ?_) (fun c3 => ?_)
    · have hF := (if_pos c3).symm.trans hF
      refine at_sub (lv' := [(0, vr g 1)]) [0] rfl ?_
      exact J46 σ ok hF
    · have hF := (if_neg c3).symm.trans hF
      refine at_aload_n (pc := 38) C 0 dX8_expectNumber_38 rfl rfl ?_
      refine at_geti (pc := 39) (jz := 6) C fw_8_31 kd1 rfl (Nat.le_of_ble_eq_true rfl) rfl rfl dX8_expectNumber_39 ?_
      refine at_iload_n (pc := 42) C 2 dX8_expectNumber_42 rfl rfl ?_
      refine at_icmp_le (pc := 43) (tgt := 54) C (ok 1 6) h2 dX8_expectNumber_43 rfl (fun c4 => ?_) (fun c4 => ?_)
      · have hF := (if_pos c4).symm.trans hF
        refine at_sub (lv' := []) [] rfl ?_
        exact J54 σ ok hF
      · have hF := (if_neg c4).symm.trans hF
        refine at_sub (lv' := [(0, vr g 1)]) [0] rfl ?_
        exact J46 σ ok hF
  refine at_aload_n (pc := 0) C 0 dX8_expectNumber_0 rfl rfl ?_
  obtain ⟨q5, eq5, hF⟩ := bind_some' hF
  refine at_callVv (pc := 1) (ci := 8) C (c_X8_next l g N  σ q5  ok eq5) kv_X8_next w593 kd1 rfl rfl rfl rfl (Nat.le_of_ble_eq_true rfl) ⟨rfl, rfl, (Nat.le_of_ble_eq_true rfl), (Nat.le_of_ble_eq_true rfl)⟩ dX8_expectNumber_1 (fun okq5 => ?_)
  refine at_aload_n (pc := 4) C 0 dX8_expectNumber_4 rfl rfl ?_
  refine at_geti (pc := 5) (jz := 4) C fw_8_25 kd1 rfl (Nat.le_of_ble_eq_true rfl) rfl rfl dX8_expectNumber_5 ?_
  refine at_iconst (pc := 8) C dX8_expectNumber_8 ?_
  refine at_icmp_eq (pc := 9) (tgt := 30) C (okq5 1 4) (show inR 3 from ⟨by decide, by decide⟩) dX8_expectNumber_9 rfl (fun c6 => ?_) (fun c6 => ?_)
  · have hF := (if_pos c6).symm.trans hF
    exact J30 v1 v2 q5 h1 h2 okq5 hF
  · have hF := (if_neg c6).symm.trans hF
    have J24 : ∀  (σ : Sto), OK σ → F_X8_expectNumber_J24 N   σ = some res → At p l e rm_X8_expectNumber s m args below meth c 0 0 g 3 (MQ below (QI g s.heap.size res.1 res.2 isB) args s 0 0 (AA g s.heap.size)) 24 [(0, vr g 1)] [] σ := by
      intro σ ok hF
      unfold F_X8_expectNumber_J24 at hF
      refine at_aload_n (pc := 24) C 0 dX8_expectNumber_24 rfl rfl ?_
      refine at_iconst (pc := 25) C dX8_expectNumber_25 ?_
      obtain ⟨q7, eq7, hF⟩ := bind_some' hF
      refine at_callV (pc := 26) (ci := 8) C (c_X8_fail l g N 1 σ q7 (isB.r (Or.inr rfl)) ok eq7) kv_X8_fail w625 kd1 rfl rfl rfl rfl (Nat.le_of_ble_eq_true rfl) ⟨rfl, rfl, (Nat.le_of_ble_eq_true rfl), (Nat.le_of_ble_eq_true rfl)⟩ dX8_expectNumber_26 (fun tq7 okq7 => ?_)
      obtain rfl := Option.some.inj hF
      exact at_zret (pc := 29) C hr hlk tq7 okq7 dX8_expectNumber_29
    refine at_aload_n (pc := 12) C 0 dX8_expectNumber_12 rfl rfl ?_
    refine at_geti (pc := 13) (jz := 4) C fw_8_25 kd1 rfl (Nat.le_of_ble_eq_true rfl) rfl rfl dX8_expectNumber_13 ?_
    refine at_iconst (pc := 16) C dX8_expectNumber_16 ?_
    refine at_icmp_ne (pc := 17) (tgt := 24) C (okq5 1 4) (show inR 4 from ⟨by decide, by decide⟩) dX8_expectNumber_17 rfl (fun c8 => ?_) (fun c8 => ?_)
    · have hF := (if_neg c8).symm.trans hF
      refine at_sub (lv' := [(0, vr g 1)]) [0] rfl ?_
      exact J24 q5 okq5 hF
    · have hF := (if_pos c8).symm.trans hF
      refine at_iload_n (pc := 20) C 1 dX8_expectNumber_20 rfl rfl ?_
      refine at_if_lt (pc := 21) (tgt := 30) C h1 dX8_expectNumber_21 rfl (fun c9 => ?_) (fun c9 => ?_)
      · have hF := (if_pos c9).symm.trans hF
        exact J30 v1 v2 q5 h1 h2 okq5 hF
      · have hF := (if_neg c9).symm.trans hF
        refine at_sub (lv' := [(0, vr g 1)]) [0] rfl ?_
        exact J24 q5 okq5 hF
abbrev rm_X8_readMember : Room := { frames := 4, cells := 0, slots := 0, locals := 86 }
def F_X8_readMember (N : Nat) (v1 : Nat) (σ : Sto) : Option (Int × Sto) :=
  if (σ.1 v1 8) < 8 then ((F_X8_expect N 2 σ).bind (fun q2 => if q2.1 = 0 then (some (0, q2.2)) else ((F_X0_find N v1 (q2.2.1 1 6) q2.2).bind (fun q4 => if q4 < 0 then (inb (σ.1 v1 8) 8 ((F_X8_expectNumber N 0 99 (upI q2.2 (v1 + 1) (σ.1 v1 8) (q2.2.1 1 6))).bind (fun q7 => if q7.1 = 0 then (some (0, q7.2)) else ((F_X8_expectNumber N 0 99 (upI q7.2 (v1 + 2) (σ.1 v1 8) (q7.2.1 1 6))).bind (fun q9 => if q9.1 = 0 then (some (0, q9.2)) else (some (1, (upI (upI q9.2 (v1 + 3) (σ.1 v1 8) (q9.2.1 1 6)) v1 8 (ja (σ.1 v1 8) 1))))))))) else ((F_X8_fail N 3 q2.2).bind (fun q11 => some (q11.1, q11.2))))))) else ((F_X8_fail N 2 σ).bind (fun q12 => some (q12.1, q12.2)))
set_option maxHeartbeats 4000000 in
set_option maxRecDepth 100000 in
theorem c_X8_readMember (l : Launch) (g : Geo) (N : Nat) (v1 : Nat) (σ : Sto) (res : Int × Sto) (hk1 : knd v1 = (10, 14)) (ok : OK σ) (hF : F_X8_readMember N v1 σ = some res) : MtI l g yX8_readMember cX8_readMember 3 (some .boolean) rm_X8_readMember [vr g 1, vr g v1] σ res.1 res.2 isB := by
  intro sz
  refine Met.ofAt (own := RX8) (QQ := fun z => QI g z res.1 res.2 isB) (by decide +kernel) (Nat.le_of_ble_eq_true rfl) rfl ?_
  intro p e s m args below meth c C hr hlk
  show At p l e rm_X8_readMember s m args below meth c 0 0 g 3 (MQ below (QI g s.heap.size res.1 res.2 isB) args s 0 0 (AA g s.heap.size)) 0 [(0, vr g 1), (1, vr g v1)] [] σ
  unfold F_X8_readMember at hF
  refine at_aload_n (pc := 0) C 1 dX8_readMember_0 rfl rfl ?_
  refine at_geti (pc := 1) (jz := 8) C fw_8_82 hk1 rfl (Nat.le_of_ble_eq_true rfl) rfl rfl dX8_readMember_1 ?_
  refine at_istore_n (pc := 4) (lv' := [(2, vi (σ.1 v1 8)), (0, vr g 1), (1, vr g v1)]) C dX8_readMember_4 rfl (Nat.le_of_ble_eq_true rfl) rfl ?_
  refine at_iload_n (pc := 5) C 0 dX8_readMember_5 rfl rfl ?_
  refine at_bipush (pc := 6) C dX8_readMember_6 (by decide) ?_
  refine at_icmp_lt (pc := 8) (tgt := 17) C (ok v1 8) (show inR 8 from ⟨by decide, by decide⟩) dX8_readMember_8 rfl (fun c1 => ?_) (fun c1 => ?_)
  · have hF := (if_pos c1).symm.trans hF
    refine at_aload_n (pc := 17) C 1 dX8_readMember_17 rfl rfl ?_
    refine at_iconst (pc := 18) C dX8_readMember_18 ?_
    obtain ⟨q2, eq2, hF⟩ := bind_some' hF
    refine at_callV (pc := 19) (ci := 8) C (c_X8_expect l g N 2 σ q2 (show inR 2 from ⟨by decide, by decide⟩) ok eq2) kv_X8_expect w633 kd1 rfl rfl rfl rfl (Nat.le_of_ble_eq_true rfl) ⟨rfl, rfl, (Nat.le_of_ble_eq_true rfl), (Nat.le_of_ble_eq_true rfl)⟩ dX8_readMember_19 (fun tq2 okq2 => ?_)
    refine at_if_ne (pc := 22) (tgt := 27) C (isB.r tq2) dX8_readMember_22 rfl (fun c3 => ?_) (fun c3 => ?_)
    · have hF := (if_neg c3).symm.trans hF
      refine at_aload_n (pc := 27) C 2 dX8_readMember_27 rfl rfl ?_
      refine at_aload_n (pc := 28) C 1 dX8_readMember_28 rfl rfl ?_
      refine at_geti (pc := 29) (jz := 6) C fw_8_31 kd1 rfl (Nat.le_of_ble_eq_true rfl) rfl rfl dX8_readMember_29 ?_
      obtain ⟨q4, eq4, hF⟩ := bind_some' hF
      refine at_callV (pc := 32) (ci := 0) C (c_X0_find l g N v1 (q2.2.1 1 6) q2.2 q4 hk1 (okq2 1 6) okq2 eq4) kv_X0_find w637 hk1 rfl rfl rfl rfl (Nat.le_of_ble_eq_true rfl) ⟨rfl, rfl, (Nat.le_of_ble_eq_true rfl), (Nat.le_of_ble_eq_true rfl)⟩ dX8_readMember_32 (fun tq4 okq4 => ?_)
      refine at_if_lt (pc := 35) (tgt := 44) C tq4 dX8_readMember_35 rfl (fun c5 => ?_) (fun c5 => ?_)
      · have hF := (if_pos c5).symm.trans hF
        refine at_aload_n (pc := 44) C 2 dX8_readMember_44 rfl rfl ?_
        refine at_getr (pc := 45) C 1 fw_8_85 hk1 rfl (Nat.le_of_ble_eq_true rfl) rfl rfl dX8_readMember_45 ?_
        refine at_iload_n (pc := 48) C 0 dX8_readMember_48 rfl rfl ?_
        refine at_aload_n (pc := 49) C 1 dX8_readMember_49 rfl rfl ?_
        refine at_geti (pc := 50) (jz := 6) C fw_8_31 kd1 rfl (Nat.le_of_ble_eq_true rfl) rfl rfl dX8_readMember_50 ?_
        obtain ⟨b6, hF⟩ := inb_some hF
        refine at_iastore (pc := 53) C (kf0_0 hk1) b6 dX8_readMember_53 ?_
        refine at_aload_n (pc := 54) C 1 dX8_readMember_54 rfl rfl ?_
        refine at_iconst (pc := 55) C dX8_readMember_55 ?_
        refine at_bipush (pc := 56) C dX8_readMember_56 (by decide) ?_
        obtain ⟨q7, eq7, hF⟩ := bind_some' hF
        refine at_callV (pc := 58) (ci := 8) C (c_X8_expectNumber l g N 0 99 (upI q2.2 (v1 + 1) (σ.1 v1 8) (q2.2.1 1 6)) q7 (isB.r (Or.inl rfl)) (show inR 99 from ⟨by decide, by decide⟩) (OK_up (k := (v1 + 1)) (j := (σ.1 v1 8)) okq2 (okq2 1 6)) eq7) kv_X8_expectNumber w641 kd1 rfl rfl rfl rfl (Nat.le_of_ble_eq_true rfl) ⟨rfl, rfl, (Nat.le_of_ble_eq_true rfl), (Nat.le_of_ble_eq_true rfl)⟩ dX8_readMember_58 (fun tq7 okq7 => ?_)
        refine at_if_ne (pc := 61) (tgt := 66) C (isB.r tq7) dX8_readMember_61 rfl (fun c8 => ?_) (fun c8 => ?_)
        · have hF := (if_neg c8).symm.trans hF
          refine at_aload_n (pc := 66) C 2 dX8_readMember_66 rfl rfl ?_
          refine at_getr (pc := 67) C 2 fw_8_93 hk1 rfl (Nat.le_of_ble_eq_true rfl) rfl rfl dX8_readMember_67 ?_
          refine at_iload_n (pc := 70) C 0 dX8_readMember_70 rfl rfl ?_
          refine at_aload_n (pc := 71) C 1 dX8_readMember_71 rfl rfl ?_
          refine at_geti (pc := 72) (jz := 6) C fw_8_31 kd1 rfl (Nat.le_of_ble_eq_true rfl) rfl rfl dX8_readMember_72 ?_
          refine at_iastore (pc := 75) C (kf0_1 hk1) b6 dX8_readMember_75 ?_
          refine at_aload_n (pc := 76) C 1 dX8_readMember_76 rfl rfl ?_
          refine at_iconst (pc := 77) C dX8_readMember_77 ?_
          refine at_bipush (pc := 78) C dX8_readMember_78 (by decide) ?_
          obtain ⟨q9, eq9, hF⟩ := bind_some' hF
          refine at_callV (pc := 80) (ci := 8) C (c_X8_expectNumber l g N 0 99 (upI q7.2 (v1 + 2) (σ.1 v1 8) (q7.2.1 1 6)) q9 (isB.r (Or.inl rfl)) (show inR 99 from ⟨by decide, by decide⟩) (OK_up (k := (v1 + 2)) (j := (σ.1 v1 8)) okq7 (okq7 1 6)) eq9) kv_X8_expectNumber w641 kd1 rfl rfl rfl rfl (Nat.le_of_ble_eq_true rfl) ⟨rfl, rfl, (Nat.le_of_ble_eq_true rfl), (Nat.le_of_ble_eq_true rfl)⟩ dX8_readMember_80 (fun tq9 okq9 => ?_)
          refine at_if_ne (pc := 83) (tgt := 88) C (isB.r tq9) dX8_readMember_83 rfl (fun c10 => ?_) (fun c10 => ?_)
          · have hF := (if_neg c10).symm.trans hF
            refine at_aload_n (pc := 88) C 2 dX8_readMember_88 rfl rfl ?_
            refine at_getr (pc := 89) C 3 fw_8_96 hk1 rfl (Nat.le_of_ble_eq_true rfl) rfl rfl dX8_readMember_89 ?_
            refine at_iload_n (pc := 92) C 0 dX8_readMember_92 rfl rfl ?_
            refine at_aload_n (pc := 93) C 1 dX8_readMember_93 rfl rfl ?_
            refine at_geti (pc := 94) (jz := 6) C fw_8_31 kd1 rfl (Nat.le_of_ble_eq_true rfl) rfl rfl dX8_readMember_94 ?_
            refine at_iastore (pc := 97) C (kf0_2 hk1) b6 dX8_readMember_97 ?_
            refine at_aload_n (pc := 98) C 2 dX8_readMember_98 rfl rfl ?_
            refine at_iload_n (pc := 99) C 0 dX8_readMember_99 rfl rfl ?_
            refine at_iconst (pc := 100) C dX8_readMember_100 ?_
            refine at_iadd (pc := 101) C dX8_readMember_101 ?_
            refine at_puti (pc := 102) (jz := 8) C fu_8_82 hk1 rfl (Nat.le_of_ble_eq_true rfl) rfl rfl dX8_readMember_102 ?_
            refine at_iconst (pc := 105) C dX8_readMember_105 ?_
            obtain rfl := Option.some.inj hF
            exact at_zret (pc := 106) C hr hlk (Or.inr rfl) (OK_up (k := v1) (j := 8) (OK_up (k := (v1 + 3)) (j := (σ.1 v1 8)) okq9 (okq9 1 6)) (ja_R (σ.1 v1 8) 1)) dX8_readMember_106
          · have hF := (if_pos c10).symm.trans hF
            refine at_iconst (pc := 86) C dX8_readMember_86 ?_
            obtain rfl := Option.some.inj hF
            exact at_zret (pc := 87) C hr hlk (Or.inl rfl) okq9 dX8_readMember_87
        · have hF := (if_pos c8).symm.trans hF
          refine at_iconst (pc := 64) C dX8_readMember_64 ?_
          obtain rfl := Option.some.inj hF
          exact at_zret (pc := 65) C hr hlk (Or.inl rfl) okq7 dX8_readMember_65
      · have hF := (if_neg c5).symm.trans hF
        refine at_aload_n (pc := 38) C 1 dX8_readMember_38 rfl rfl ?_
        refine at_iconst (pc := 39) C dX8_readMember_39 ?_
        obtain ⟨q11, eq11, hF⟩ := bind_some' hF
        refine at_callV (pc := 40) (ci := 8) C (c_X8_fail l g N 3 q2.2 q11 (show inR 3 from ⟨by decide, by decide⟩) okq2 eq11) kv_X8_fail w625 kd1 rfl rfl rfl rfl (Nat.le_of_ble_eq_true rfl) ⟨rfl, rfl, (Nat.le_of_ble_eq_true rfl), (Nat.le_of_ble_eq_true rfl)⟩ dX8_readMember_40 (fun tq11 okq11 => ?_)
        obtain rfl := Option.some.inj hF
        exact at_zret (pc := 43) C hr hlk tq11 okq11 dX8_readMember_43
    · have hF := (if_pos c3).symm.trans hF
      refine at_iconst (pc := 25) C dX8_readMember_25 ?_
      obtain rfl := Option.some.inj hF
      exact at_zret (pc := 26) C hr hlk (Or.inl rfl) okq2 dX8_readMember_26
  · have hF := (if_neg c1).symm.trans hF
    refine at_aload_n (pc := 11) C 1 dX8_readMember_11 rfl rfl ?_
    refine at_iconst (pc := 12) C dX8_readMember_12 ?_
    obtain ⟨q12, eq12, hF⟩ := bind_some' hF
    refine at_callV (pc := 13) (ci := 8) C (c_X8_fail l g N 2 σ q12 (show inR 2 from ⟨by decide, by decide⟩) ok eq12) kv_X8_fail w625 kd1 rfl rfl rfl rfl (Nat.le_of_ble_eq_true rfl) ⟨rfl, rfl, (Nat.le_of_ble_eq_true rfl), (Nat.le_of_ble_eq_true rfl)⟩ dX8_readMember_13 (fun tq12 okq12 => ?_)
    obtain rfl := Option.some.inj hF
    exact at_zret (pc := 16) C hr hlk tq12 okq12 dX8_readMember_16
abbrev rm_X8_expectMember : Room := { frames := 3, cells := 0, slots := 0, locals := 64 }
def F_X8_expectMember_J45 (N : Nat)   (σ : Sto) : Option (Int × Sto) :=
  some (1, σ)
def F_X8_expectMember (N : Nat) (v1 : Nat) (σ : Sto) : Option (Int × Sto) :=
  (F_X8_next N σ).bind (fun q1 => if (q1.1 1 4) = 2 then ((F_X0_find N v1 (q1.1 1 6) q1).bind (fun q3 => if 0 ≤ ((upI q1 1 6 q3).1 1 6) then (F_X8_expectMember_J45 N   (upI q1 1 6 q3)) else ((F_X8_fail N 4 (upI q1 1 6 q3)).bind (fun q5 => if q5.1 = 0 then (some (0, q5.2)) else (F_X8_expectMember_J45 N   q5.2))))) else ((F_X8_fail N 1 q1).bind (fun q7 => some (q7.1, q7.2))))
set_option maxHeartbeats 4000000 in
set_option maxRecDepth 100000 in
theorem c_X8_expectMember (l : Launch) (g : Geo) (N : Nat) (v1 : Nat) (σ : Sto) (res : Int × Sto) (hk1 : knd v1 = (10, 14)) (ok : OK σ) (hF : F_X8_expectMember N v1 σ = some res) : MtI l g yX8_expectMember cX8_expectMember 2 (some .boolean) rm_X8_expectMember [vr g 1, vr g v1] σ res.1 res.2 isB := by
  intro sz
  refine Met.ofAt (own := RX8) (QQ := fun z => QI g z res.1 res.2 isB) (by decide +kernel) (Nat.le_of_ble_eq_true rfl) rfl ?_
  intro p e s m args below meth c C hr hlk
  show At p l e rm_X8_expectMember s m args below meth c 0 0 g 2 (MQ below (QI g s.heap.size res.1 res.2 isB) args s 0 0 (AA g s.heap.size)) 0 [(0, vr g 1), (1, vr g v1)] [] σ
  unfold F_X8_expectMember at hF
  refine at_aload_n (pc := 0) C 0 dX8_expectMember_0 rfl rfl ?_
  obtain ⟨q1, eq1, hF⟩ := bind_some' hF
  refine at_callVv (pc := 1) (ci := 8) C (c_X8_next l g N  σ q1  ok eq1) kv_X8_next w593 kd1 rfl rfl rfl rfl (Nat.le_of_ble_eq_true rfl) ⟨rfl, rfl, (Nat.le_of_ble_eq_true rfl), (Nat.le_of_ble_eq_true rfl)⟩ dX8_expectMember_1 (fun okq1 => ?_)
  refine at_aload_n (pc := 4) C 0 dX8_expectMember_4 rfl rfl ?_
  refine at_geti (pc := 5) (jz := 4) C fw_8_25 kd1 rfl (Nat.le_of_ble_eq_true rfl) rfl rfl dX8_expectMember_5 ?_
  refine at_iconst (pc := 8) C dX8_expectMember_8 ?_
  refine at_icmp_eq (pc := 9) (tgt := 18) C (okq1 1 4) (show inR 2 from ⟨by decide, by decide⟩) dX8_expectMember_9 rfl (fun c2 => ?_) (fun c2 => ?_)
  · have hF := (if_pos c2).symm.trans hF
    have J45 : ∀  (σ : Sto), OK σ → F_X8_expectMember_J45 N   σ = some res → At p l e rm_X8_expectMember s m args below meth c 0 0 g 2 (MQ below (QI g s.heap.size res.1 res.2 isB) args s 0 0 (AA g s.heap.size)) 45 [] [] σ := by
      intro σ ok hF
      unfold F_X8_expectMember_J45 at hF
      refine at_iconst (pc := 45) C dX8_expectMember_45 ?_
      refine at_goto (pc := 46) (tgt := 50) C dX8_expectMember_46 rfl ?_
      obtain rfl := Option.some.inj hF
      exact at_zret (pc := 50) C hr hlk (Or.inr rfl) ok dX8_expectMember_50
    refine at_aload_n (pc := 18) C 0 dX8_expectMember_18 rfl rfl ?_
    refine at_aload_n (pc := 19) C 1 dX8_expectMember_19 rfl rfl ?_
    refine at_aload_n (pc := 20) C 0 dX8_expectMember_20 rfl rfl ?_
    refine at_geti (pc := 21) (jz := 6) C fw_8_31 kd1 rfl (Nat.le_of_ble_eq_true rfl) rfl rfl dX8_expectMember_21 ?_
    obtain ⟨q3, eq3, hF⟩ := bind_some' hF
    refine at_callV (pc := 24) (ci := 0) C (c_X0_find l g N v1 (q1.1 1 6) q1 q3 hk1 (okq1 1 6) okq1 eq3) kv_X0_find w637 hk1 rfl rfl rfl rfl (Nat.le_of_ble_eq_true rfl) ⟨rfl, rfl, (Nat.le_of_ble_eq_true rfl), (Nat.le_of_ble_eq_true rfl)⟩ dX8_expectMember_24 (fun tq3 okq3 => ?_)
    refine at_puti (pc := 27) (jz := 6) C fu_8_31 kd1 rfl (Nat.le_of_ble_eq_true rfl) rfl rfl dX8_expectMember_27 ?_
    refine at_aload_n (pc := 30) C 0 dX8_expectMember_30 rfl rfl ?_
    refine at_geti (pc := 31) (jz := 6) C fw_8_31 kd1 rfl (Nat.le_of_ble_eq_true rfl) rfl rfl dX8_expectMember_31 ?_
    refine at_if_ge (pc := 34) (tgt := 45) C ((OK_up (k := 1) (j := 6) okq1 tq3) 1 6) dX8_expectMember_34 rfl (fun c4 => ?_) (fun c4 => ?_)
    · have hF := (if_pos c4).symm.trans hF
      refine at_sub (lv' := []) [] rfl ?_
      exact J45 (upI q1 1 6 q3) (OK_up (k := 1) (j := 6) okq1 tq3) hF
    · have hF := (if_neg c4).symm.trans hF
      refine at_aload_n (pc := 37) C 0 dX8_expectMember_37 rfl rfl ?_
      refine at_iconst (pc := 38) C dX8_expectMember_38 ?_
      obtain ⟨q5, eq5, hF⟩ := bind_some' hF
      refine at_callV (pc := 39) (ci := 8) C (c_X8_fail l g N 4 (upI q1 1 6 q3) q5 (show inR 4 from ⟨by decide, by decide⟩) (OK_up (k := 1) (j := 6) okq1 tq3) eq5) kv_X8_fail w625 kd1 rfl rfl rfl rfl (Nat.le_of_ble_eq_true rfl) ⟨rfl, rfl, (Nat.le_of_ble_eq_true rfl), (Nat.le_of_ble_eq_true rfl)⟩ dX8_expectMember_39 (fun tq5 okq5 => ?_)
      refine at_if_eq (pc := 42) (tgt := 49) C (isB.r tq5) dX8_expectMember_42 rfl (fun c6 => ?_) (fun c6 => ?_)
      · have hF := (if_pos c6).symm.trans hF
        refine at_iconst (pc := 49) C dX8_expectMember_49 ?_
        obtain rfl := Option.some.inj hF
        exact at_zret (pc := 50) C hr hlk (Or.inl rfl) okq5 dX8_expectMember_50
      · have hF := (if_neg c6).symm.trans hF
        refine at_sub (lv' := []) [] rfl ?_
        exact J45 q5.2 okq5 hF
  · have hF := (if_neg c2).symm.trans hF
    refine at_aload_n (pc := 12) C 0 dX8_expectMember_12 rfl rfl ?_
    refine at_iconst (pc := 13) C dX8_expectMember_13 ?_
    obtain ⟨q7, eq7, hF⟩ := bind_some' hF
    refine at_callV (pc := 14) (ci := 8) C (c_X8_fail l g N 1 q1 q7 (isB.r (Or.inr rfl)) okq1 eq7) kv_X8_fail w625 kd1 rfl rfl rfl rfl (Nat.le_of_ble_eq_true rfl) ⟨rfl, rfl, (Nat.le_of_ble_eq_true rfl), (Nat.le_of_ble_eq_true rfl)⟩ dX8_expectMember_14 (fun tq7 okq7 => ?_)
    obtain rfl := Option.some.inj hF
    exact at_zret (pc := 17) C hr hlk tq7 okq7 dX8_expectMember_17
abbrev rm_X8_readOwns : Room := { frames := 4, cells := 0, slots := 0, locals := 86 }
def F_X8_readOwns (N : Nat) (v1 : Nat) (σ : Sto) : Option (Int × Sto) :=
  if (σ.1 (v1 + 8) 4) < 16 then ((F_X8_expectMember N v1 σ).bind (fun q2 => if q2.1 = 0 then (some (0, q2.2)) else ((F_X8_expectMember N v1 q2.2).bind (fun q4 => if q4.1 = 0 then (some (0, q4.2)) else (if (q2.2.1 1 6) < (q4.2.1 1 6) then ((F_X8_expectNumber N 0 100 q4.2).bind (fun q7 => if q7.1 = 0 then (some (0, q7.2)) else ((F_X8_expectNumber N 0 999 q7.2).bind (fun q9 => if q9.1 = 0 then (some (0, q9.2)) else ((F_X7_add N (v1 + 8) (q2.2.1 1 6) (q4.2.1 1 6) (q7.2.1 1 6) (q9.2.1 1 6) q9.2).bind (fun q11 => some (1, q11))))))) else ((F_X8_fail N 2 q4.2).bind (fun q12 => some (q12.1, q12.2)))))))) else ((F_X8_fail N 2 σ).bind (fun q13 => some (q13.1, q13.2)))
set_option maxHeartbeats 4000000 in
set_option maxRecDepth 100000 in
theorem c_X8_readOwns (l : Launch) (g : Geo) (N : Nat) (v1 : Nat) (σ : Sto) (res : Int × Sto) (hk1 : knd v1 = (10, 14)) (ok : OK σ) (hF : F_X8_readOwns N v1 σ = some res) : MtI l g yX8_readOwns cX8_readOwns 5 (some .boolean) rm_X8_readOwns [vr g 1, vr g v1] σ res.1 res.2 isB := by
  intro sz
  refine Met.ofAt (own := RX8) (QQ := fun z => QI g z res.1 res.2 isB) (by decide +kernel) (Nat.le_of_ble_eq_true rfl) rfl ?_
  intro p e s m args below meth c C hr hlk
  show At p l e rm_X8_readOwns s m args below meth c 0 0 g 5 (MQ below (QI g s.heap.size res.1 res.2 isB) args s 0 0 (AA g s.heap.size)) 0 [(0, vr g 1), (1, vr g v1)] [] σ
  unfold F_X8_readOwns at hF
  refine at_aload_n (pc := 0) C 1 dX8_readOwns_0 rfl rfl ?_
  refine at_getr (pc := 1) C 8 fw_8_99 hk1 rfl (Nat.le_of_ble_eq_true rfl) rfl rfl dX8_readOwns_1 ?_
  refine at_geti (pc := 4) (jz := 4) C fw_8_103 (kf0_7 hk1) rfl (Nat.le_of_ble_eq_true rfl) rfl rfl dX8_readOwns_4 ?_
  refine at_bipush (pc := 7) C dX8_readOwns_7 (by decide) ?_
  refine at_icmp_lt (pc := 9) (tgt := 18) C (ok (v1 + 8) 4) (show inR 16 from ⟨by decide, by decide⟩) dX8_readOwns_9 rfl (fun c1 => ?_) (fun c1 => ?_)
  · have hF := (if_pos c1).symm.trans hF
    refine at_aload_n (pc := 18) C 0 dX8_readOwns_18 rfl rfl ?_
    refine at_aload_n (pc := 19) C 1 dX8_readOwns_19 rfl rfl ?_
    obtain ⟨q2, eq2, hF⟩ := bind_some' hF
    refine at_callV (pc := 20) (ci := 8) C (c_X8_expectMember l g N v1 σ q2 hk1 ok eq2) kv_X8_expectMember w649 kd1 rfl rfl rfl rfl (Nat.le_of_ble_eq_true rfl) ⟨rfl, rfl, (Nat.le_of_ble_eq_true rfl), (Nat.le_of_ble_eq_true rfl)⟩ dX8_readOwns_20 (fun tq2 okq2 => ?_)
    refine at_if_ne (pc := 23) (tgt := 28) C (isB.r tq2) dX8_readOwns_23 rfl (fun c3 => ?_) (fun c3 => ?_)
    · have hF := (if_neg c3).symm.trans hF
      refine at_aload_n (pc := 28) C 0 dX8_readOwns_28 rfl rfl ?_
      refine at_geti (pc := 29) (jz := 6) C fw_8_31 kd1 rfl (Nat.le_of_ble_eq_true rfl) rfl rfl dX8_readOwns_29 ?_
      refine at_istore_n (pc := 32) (lv' := [(2, vi (q2.2.1 1 6)), (0, vr g 1), (1, vr g v1)]) C dX8_readOwns_32 rfl (Nat.le_of_ble_eq_true rfl) rfl ?_
      refine at_aload_n (pc := 33) C 1 dX8_readOwns_33 rfl rfl ?_
      refine at_aload_n (pc := 34) C 2 dX8_readOwns_34 rfl rfl ?_
      obtain ⟨q4, eq4, hF⟩ := bind_some' hF
      refine at_callV (pc := 35) (ci := 8) C (c_X8_expectMember l g N v1 q2.2 q4 hk1 okq2 eq4) kv_X8_expectMember w649 kd1 rfl rfl rfl rfl (Nat.le_of_ble_eq_true rfl) ⟨rfl, rfl, (Nat.le_of_ble_eq_true rfl), (Nat.le_of_ble_eq_true rfl)⟩ dX8_readOwns_35 (fun tq4 okq4 => ?_)
      refine at_if_ne (pc := 38) (tgt := 43) C (isB.r tq4) dX8_readOwns_38 rfl (fun c5 => ?_) (fun c5 => ?_)
      · have hF := (if_neg c5).symm.trans hF
        refine at_aload_n (pc := 43) C 1 dX8_readOwns_43 rfl rfl ?_
        refine at_geti (pc := 44) (jz := 6) C fw_8_31 kd1 rfl (Nat.le_of_ble_eq_true rfl) rfl rfl dX8_readOwns_44 ?_
        refine at_istore_n (pc := 47) (lv' := [(3, vi (q4.2.1 1 6)), (2, vi (q2.2.1 1 6)), (0, vr g 1), (1, vr g v1)]) C dX8_readOwns_47 rfl (Nat.le_of_ble_eq_true rfl) rfl ?_
        refine at_iload_n (pc := 48) C 0 dX8_readOwns_48 rfl rfl ?_
        refine at_iload_n (pc := 49) C 1 dX8_readOwns_49 rfl rfl ?_
        refine at_icmp_gt (pc := 50) (tgt := 59) C (okq4 1 6) (okq2 1 6) dX8_readOwns_50 rfl (fun c6 => ?_) (fun c6 => ?_)
        · have hF := (if_pos c6).symm.trans hF
          refine at_aload_n (pc := 59) C 2 dX8_readOwns_59 rfl rfl ?_
          refine at_iconst (pc := 60) C dX8_readOwns_60 ?_
          refine at_bipush (pc := 61) C dX8_readOwns_61 (by decide) ?_
          obtain ⟨q7, eq7, hF⟩ := bind_some' hF
          refine at_callV (pc := 63) (ci := 8) C (c_X8_expectNumber l g N 0 100 q4.2 q7 (isB.r (Or.inl rfl)) (show inR 100 from ⟨by decide, by decide⟩) okq4 eq7) kv_X8_expectNumber w641 kd1 rfl rfl rfl rfl (Nat.le_of_ble_eq_true rfl) ⟨rfl, rfl, (Nat.le_of_ble_eq_true rfl), (Nat.le_of_ble_eq_true rfl)⟩ dX8_readOwns_63 (fun tq7 okq7 => ?_)
          refine at_if_ne (pc := 66) (tgt := 71) C (isB.r tq7) dX8_readOwns_66 rfl (fun c8 => ?_) (fun c8 => ?_)
          · have hF := (if_neg c8).symm.trans hF
            refine at_aload_n (pc := 71) C 2 dX8_readOwns_71 rfl rfl ?_
            refine at_geti (pc := 72) (jz := 6) C fw_8_31 kd1 rfl (Nat.le_of_ble_eq_true rfl) rfl rfl dX8_readOwns_72 ?_
            refine at_istore (pc := 75) (lv' := [(4, vi (q7.2.1 1 6)), (3, vi (q4.2.1 1 6)), (2, vi (q2.2.1 1 6)), (0, vr g 1), (1, vr g v1)]) C dX8_readOwns_75 (Nat.le_of_ble_eq_true rfl) rfl ?_
            refine at_aload_n (pc := 77) C 3 dX8_readOwns_77 rfl rfl ?_
            refine at_iconst (pc := 78) C dX8_readOwns_78 ?_
            refine at_sipush (pc := 79) C dX8_readOwns_79 (by decide) ?_
            obtain ⟨q9, eq9, hF⟩ := bind_some' hF
            refine at_callV (pc := 82) (ci := 8) C (c_X8_expectNumber l g N 0 999 q7.2 q9 (isB.r (Or.inl rfl)) (show inR 999 from ⟨by decide, by decide⟩) okq7 eq9) kv_X8_expectNumber w641 kd1 rfl rfl rfl rfl (Nat.le_of_ble_eq_true rfl) ⟨rfl, rfl, (Nat.le_of_ble_eq_true rfl), (Nat.le_of_ble_eq_true rfl)⟩ dX8_readOwns_82 (fun tq9 okq9 => ?_)
            refine at_if_ne (pc := 85) (tgt := 90) C (isB.r tq9) dX8_readOwns_85 rfl (fun c10 => ?_) (fun c10 => ?_)
            · have hF := (if_neg c10).symm.trans hF
              refine at_aload_n (pc := 90) C 4 dX8_readOwns_90 rfl rfl ?_
              refine at_getr (pc := 91) C 8 fw_8_99 hk1 rfl (Nat.le_of_ble_eq_true rfl) rfl rfl dX8_readOwns_91 ?_
              refine at_iload_n (pc := 94) C 2 dX8_readOwns_94 rfl rfl ?_
              refine at_iload_n (pc := 95) C 1 dX8_readOwns_95 rfl rfl ?_
              refine at_iload (pc := 96) C 0 dX8_readOwns_96 rfl ?_
              refine at_aload_n (pc := 98) C 3 dX8_readOwns_98 rfl rfl ?_
              refine at_geti (pc := 99) (jz := 6) C fw_8_31 kd1 rfl (Nat.le_of_ble_eq_true rfl) rfl rfl dX8_readOwns_99 ?_
              obtain ⟨q11, eq11, hF⟩ := bind_some' hF
              refine at_callVv (pc := 102) (ci := 7) C (c_X7_add l g N (v1 + 8) (q2.2.1 1 6) (q4.2.1 1 6) (q7.2.1 1 6) (q9.2.1 1 6) q9.2 q11 (kf0_7 hk1) (okq2 1 6) (okq4 1 6) (okq7 1 6) (okq9 1 6) okq9 eq11) kv_X7_add w653 (kf0_7 hk1) rfl rfl rfl rfl (Nat.le_of_ble_eq_true rfl) ⟨rfl, rfl, (Nat.le_of_ble_eq_true rfl), (Nat.le_of_ble_eq_true rfl)⟩ dX8_readOwns_102 (fun okq11 => ?_)
              refine at_iconst (pc := 105) C dX8_readOwns_105 ?_
              obtain rfl := Option.some.inj hF
              exact at_zret (pc := 106) C hr hlk (Or.inr rfl) okq11 dX8_readOwns_106
            · have hF := (if_pos c10).symm.trans hF
              refine at_iconst (pc := 88) C dX8_readOwns_88 ?_
              obtain rfl := Option.some.inj hF
              exact at_zret (pc := 89) C hr hlk (Or.inl rfl) okq9 dX8_readOwns_89
          · have hF := (if_pos c8).symm.trans hF
            refine at_iconst (pc := 69) C dX8_readOwns_69 ?_
            obtain rfl := Option.some.inj hF
            exact at_zret (pc := 70) C hr hlk (Or.inl rfl) okq7 dX8_readOwns_70
        · have hF := (if_neg c6).symm.trans hF
          refine at_aload_n (pc := 53) C 2 dX8_readOwns_53 rfl rfl ?_
          refine at_iconst (pc := 54) C dX8_readOwns_54 ?_
          obtain ⟨q12, eq12, hF⟩ := bind_some' hF
          refine at_callV (pc := 55) (ci := 8) C (c_X8_fail l g N 2 q4.2 q12 (show inR 2 from ⟨by decide, by decide⟩) okq4 eq12) kv_X8_fail w625 kd1 rfl rfl rfl rfl (Nat.le_of_ble_eq_true rfl) ⟨rfl, rfl, (Nat.le_of_ble_eq_true rfl), (Nat.le_of_ble_eq_true rfl)⟩ dX8_readOwns_55 (fun tq12 okq12 => ?_)
          obtain rfl := Option.some.inj hF
          exact at_zret (pc := 58) C hr hlk tq12 okq12 dX8_readOwns_58
      · have hF := (if_pos c5).symm.trans hF
        refine at_iconst (pc := 41) C dX8_readOwns_41 ?_
        obtain rfl := Option.some.inj hF
        exact at_zret (pc := 42) C hr hlk (Or.inl rfl) okq4 dX8_readOwns_42
    · have hF := (if_pos c3).symm.trans hF
      refine at_iconst (pc := 26) C dX8_readOwns_26 ?_
      obtain rfl := Option.some.inj hF
      exact at_zret (pc := 27) C hr hlk (Or.inl rfl) okq2 dX8_readOwns_27
  · have hF := (if_neg c1).symm.trans hF
    refine at_aload_n (pc := 12) C 0 dX8_readOwns_12 rfl rfl ?_
    refine at_iconst (pc := 13) C dX8_readOwns_13 ?_
    obtain ⟨q13, eq13, hF⟩ := bind_some' hF
    refine at_callV (pc := 14) (ci := 8) C (c_X8_fail l g N 2 σ q13 (show inR 2 from ⟨by decide, by decide⟩) ok eq13) kv_X8_fail w625 kd1 rfl rfl rfl rfl (Nat.le_of_ble_eq_true rfl) ⟨rfl, rfl, (Nat.le_of_ble_eq_true rfl), (Nat.le_of_ble_eq_true rfl)⟩ dX8_readOwns_14 (fun tq13 okq13 => ?_)
    obtain rfl := Option.some.inj hF
    exact at_zret (pc := 17) C hr hlk tq13 okq13 dX8_readOwns_17
abbrev rm_X8_readPeriod : Room := { frames := 4, cells := 0, slots := 0, locals := 86 }
def F_X8_readPeriod (N : Nat) (v1 : Nat) (σ : Sto) : Option (Int × Sto) :=
  if (σ.1 v1 9) < 12 then ((F_X8_expectMember N v1 σ).bind (fun q2 => if q2.1 = 0 then (some (0, q2.2)) else (inb (σ.1 v1 9) 12 ((F_X8_expectNumber N 0 999 (upI q2.2 (v1 + 4) (σ.1 v1 9) (q2.2.1 1 6))).bind (fun q5 => if q5.1 = 0 then (some (0, q5.2)) else ((F_X8_expectNumber N ((upI q5.2 (v1 + 5) (σ.1 v1 9) (q5.2.1 1 6)).1 (v1 + 5) (σ.1 v1 9)) 999 (upI q5.2 (v1 + 5) (σ.1 v1 9) (q5.2.1 1 6))).bind (fun q7 => if q7.1 = 0 then (some (0, q7.2)) else ((F_X0_overlaps N v1 ((upI q7.2 (v1 + 6) (σ.1 v1 9) (q7.2.1 1 6)).1 (v1 + 4) (σ.1 v1 9)) ((upI q7.2 (v1 + 6) (σ.1 v1 9) (q7.2.1 1 6)).1 (v1 + 5) (σ.1 v1 9)) ((upI q7.2 (v1 + 6) (σ.1 v1 9) (q7.2.1 1 6)).1 1 6) (σ.1 v1 9) (upI q7.2 (v1 + 6) (σ.1 v1 9) (q7.2.1 1 6))).bind (fun q9 => if q9 = 0 then ((F_X8_expectNumber N (-99999) 99999 (upI q7.2 (v1 + 6) (σ.1 v1 9) (q7.2.1 1 6))).bind (fun q11 => if q11.1 = 0 then (some (0, q11.2)) else (some (1, (upI (upI q11.2 (v1 + 7) (σ.1 v1 9) (q11.2.1 1 6)) v1 9 (ja (σ.1 v1 9) 1)))))) else ((F_X8_fail N 3 (upI q7.2 (v1 + 6) (σ.1 v1 9) (q7.2.1 1 6))).bind (fun q13 => some (q13.1, q13.2)))))))))))) else ((F_X8_fail N 2 σ).bind (fun q14 => some (q14.1, q14.2)))
set_option maxHeartbeats 4000000 in
set_option maxRecDepth 100000 in
theorem c_X8_readPeriod (l : Launch) (g : Geo) (N : Nat) (v1 : Nat) (σ : Sto) (res : Int × Sto) (hk1 : knd v1 = (10, 14)) (ok : OK σ) (hF : F_X8_readPeriod N v1 σ = some res) : MtI l g yX8_readPeriod cX8_readPeriod 3 (some .boolean) rm_X8_readPeriod [vr g 1, vr g v1] σ res.1 res.2 isB := by
  intro sz
  refine Met.ofAt (own := RX8) (QQ := fun z => QI g z res.1 res.2 isB) (by decide +kernel) (Nat.le_of_ble_eq_true rfl) rfl ?_
  intro p e s m args below meth c C hr hlk
  show At p l e rm_X8_readPeriod s m args below meth c 0 0 g 3 (MQ below (QI g s.heap.size res.1 res.2 isB) args s 0 0 (AA g s.heap.size)) 0 [(0, vr g 1), (1, vr g v1)] [] σ
  unfold F_X8_readPeriod at hF
  refine at_aload_n (pc := 0) C 1 dX8_readPeriod_0 rfl rfl ?_
  refine at_geti (pc := 1) (jz := 9) C fw_8_115 hk1 rfl (Nat.le_of_ble_eq_true rfl) rfl rfl dX8_readPeriod_1 ?_
  refine at_istore_n (pc := 4) (lv' := [(2, vi (σ.1 v1 9)), (0, vr g 1), (1, vr g v1)]) C dX8_readPeriod_4 rfl (Nat.le_of_ble_eq_true rfl) rfl ?_
  refine at_iload_n (pc := 5) C 0 dX8_readPeriod_5 rfl rfl ?_
  refine at_bipush (pc := 6) C dX8_readPeriod_6 (by decide) ?_
  refine at_icmp_lt (pc := 8) (tgt := 17) C (ok v1 9) (show inR 12 from ⟨by decide, by decide⟩) dX8_readPeriod_8 rfl (fun c1 => ?_) (fun c1 => ?_)
  · have hF := (if_pos c1).symm.trans hF
    refine at_aload_n (pc := 17) C 1 dX8_readPeriod_17 rfl rfl ?_
    refine at_aload_n (pc := 18) C 2 dX8_readPeriod_18 rfl rfl ?_
    obtain ⟨q2, eq2, hF⟩ := bind_some' hF
    refine at_callV (pc := 19) (ci := 8) C (c_X8_expectMember l g N v1 σ q2 hk1 ok eq2) kv_X8_expectMember w649 kd1 rfl rfl rfl rfl (Nat.le_of_ble_eq_true rfl) ⟨rfl, rfl, (Nat.le_of_ble_eq_true rfl), (Nat.le_of_ble_eq_true rfl)⟩ dX8_readPeriod_19 (fun tq2 okq2 => ?_)
    refine at_if_ne (pc := 22) (tgt := 27) C (isB.r tq2) dX8_readPeriod_22 rfl (fun c3 => ?_) (fun c3 => ?_)
    · have hF := (if_neg c3).symm.trans hF
      refine at_aload_n (pc := 27) C 2 dX8_readPeriod_27 rfl rfl ?_
      refine at_getr (pc := 28) C 4 fw_8_118 hk1 rfl (Nat.le_of_ble_eq_true rfl) rfl rfl dX8_readPeriod_28 ?_
      refine at_iload_n (pc := 31) C 0 dX8_readPeriod_31 rfl rfl ?_
      refine at_aload_n (pc := 32) C 1 dX8_readPeriod_32 rfl rfl ?_
      refine at_geti (pc := 33) (jz := 6) C fw_8_31 kd1 rfl (Nat.le_of_ble_eq_true rfl) rfl rfl dX8_readPeriod_33 ?_
      obtain ⟨b4, hF⟩ := inb_some hF
      refine at_iastore (pc := 36) C (kf0_3 hk1) b4 dX8_readPeriod_36 ?_
      refine at_aload_n (pc := 37) C 1 dX8_readPeriod_37 rfl rfl ?_
      refine at_iconst (pc := 38) C dX8_readPeriod_38 ?_
      refine at_sipush (pc := 39) C dX8_readPeriod_39 (by decide) ?_
      obtain ⟨q5, eq5, hF⟩ := bind_some' hF
      refine at_callV (pc := 42) (ci := 8) C (c_X8_expectNumber l g N 0 999 (upI q2.2 (v1 + 4) (σ.1 v1 9) (q2.2.1 1 6)) q5 (isB.r (Or.inl rfl)) (show inR 999 from ⟨by decide, by decide⟩) (OK_up (k := (v1 + 4)) (j := (σ.1 v1 9)) okq2 (okq2 1 6)) eq5) kv_X8_expectNumber w641 kd1 rfl rfl rfl rfl (Nat.le_of_ble_eq_true rfl) ⟨rfl, rfl, (Nat.le_of_ble_eq_true rfl), (Nat.le_of_ble_eq_true rfl)⟩ dX8_readPeriod_42 (fun tq5 okq5 => ?_)
      refine at_if_ne (pc := 45) (tgt := 50) C (isB.r tq5) dX8_readPeriod_45 rfl (fun c6 => ?_) (fun c6 => ?_)
      · have hF := (if_neg c6).symm.trans hF
        refine at_aload_n (pc := 50) C 2 dX8_readPeriod_50 rfl rfl ?_
        refine at_getr (pc := 51) C 5 fw_8_121 hk1 rfl (Nat.le_of_ble_eq_true rfl) rfl rfl dX8_readPeriod_51 ?_
        refine at_iload_n (pc := 54) C 0 dX8_readPeriod_54 rfl rfl ?_
        refine at_aload_n (pc := 55) C 1 dX8_readPeriod_55 rfl rfl ?_
        refine at_geti (pc := 56) (jz := 6) C fw_8_31 kd1 rfl (Nat.le_of_ble_eq_true rfl) rfl rfl dX8_readPeriod_56 ?_
        refine at_iastore (pc := 59) C (kf0_4 hk1) b4 dX8_readPeriod_59 ?_
        refine at_aload_n (pc := 60) C 1 dX8_readPeriod_60 rfl rfl ?_
        refine at_aload_n (pc := 61) C 2 dX8_readPeriod_61 rfl rfl ?_
        refine at_getr (pc := 62) C 5 fw_8_121 hk1 rfl (Nat.le_of_ble_eq_true rfl) rfl rfl dX8_readPeriod_62 ?_
        refine at_iload_n (pc := 65) C 0 dX8_readPeriod_65 rfl rfl ?_
        refine at_iaload (pc := 66) C (kf0_4 hk1) b4 dX8_readPeriod_66 ?_
        refine at_sipush (pc := 67) C dX8_readPeriod_67 (by decide) ?_
        obtain ⟨q7, eq7, hF⟩ := bind_some' hF
        refine at_callV (pc := 70) (ci := 8) C (c_X8_expectNumber l g N ((upI q5.2 (v1 + 5) (σ.1 v1 9) (q5.2.1 1 6)).1 (v1 + 5) (σ.1 v1 9)) 999 (upI q5.2 (v1 + 5) (σ.1 v1 9) (q5.2.1 1 6)) q7 ((OK_up (k := (v1 + 5)) (j := (σ.1 v1 9)) okq5 (okq5 1 6)) (v1 + 5) (σ.1 v1 9)) (show inR 999 from ⟨by decide, by decide⟩) (OK_up (k := (v1 + 5)) (j := (σ.1 v1 9)) okq5 (okq5 1 6)) eq7) kv_X8_expectNumber w641 kd1 rfl rfl rfl rfl (Nat.le_of_ble_eq_true rfl) ⟨rfl, rfl, (Nat.le_of_ble_eq_true rfl), (Nat.le_of_ble_eq_true rfl)⟩ dX8_readPeriod_70 (fun tq7 okq7 => ?_)
        refine at_if_ne (pc := 73) (tgt := 78) C (isB.r tq7) dX8_readPeriod_73 rfl (fun c8 => ?_) (fun c8 => ?_)
        · have hF := (if_neg c8).symm.trans hF
          refine at_aload_n (pc := 78) C 2 dX8_readPeriod_78 rfl rfl ?_
          refine at_getr (pc := 79) C 6 fw_8_124 hk1 rfl (Nat.le_of_ble_eq_true rfl) rfl rfl dX8_readPeriod_79 ?_
          refine at_iload_n (pc := 82) C 0 dX8_readPeriod_82 rfl rfl ?_
          refine at_aload_n (pc := 83) C 1 dX8_readPeriod_83 rfl rfl ?_
          refine at_geti (pc := 84) (jz := 6) C fw_8_31 kd1 rfl (Nat.le_of_ble_eq_true rfl) rfl rfl dX8_readPeriod_84 ?_
          refine at_iastore (pc := 87) C (kf0_5 hk1) b4 dX8_readPeriod_87 ?_
          refine at_aload_n (pc := 88) C 2 dX8_readPeriod_88 rfl rfl ?_
          refine at_aload_n (pc := 89) C 2 dX8_readPeriod_89 rfl rfl ?_
          refine at_getr (pc := 90) C 4 fw_8_118 hk1 rfl (Nat.le_of_ble_eq_true rfl) rfl rfl dX8_readPeriod_90 ?_
          refine at_iload_n (pc := 93) C 0 dX8_readPeriod_93 rfl rfl ?_
          refine at_iaload (pc := 94) C (kf0_3 hk1) b4 dX8_readPeriod_94 ?_
          refine at_aload_n (pc := 95) C 2 dX8_readPeriod_95 rfl rfl ?_
          refine at_getr (pc := 96) C 5 fw_8_121 hk1 rfl (Nat.le_of_ble_eq_true rfl) rfl rfl dX8_readPeriod_96 ?_
          refine at_iload_n (pc := 99) C 0 dX8_readPeriod_99 rfl rfl ?_
          refine at_iaload (pc := 100) C (kf0_4 hk1) b4 dX8_readPeriod_100 ?_
          refine at_aload_n (pc := 101) C 1 dX8_readPeriod_101 rfl rfl ?_
          refine at_geti (pc := 102) (jz := 6) C fw_8_31 kd1 rfl (Nat.le_of_ble_eq_true rfl) rfl rfl dX8_readPeriod_102 ?_
          refine at_iload_n (pc := 105) C 0 dX8_readPeriod_105 rfl rfl ?_
          obtain ⟨q9, eq9, hF⟩ := bind_some' hF
          refine at_callV (pc := 106) (ci := 0) C (c_X0_overlaps l g N v1 ((upI q7.2 (v1 + 6) (σ.1 v1 9) (q7.2.1 1 6)).1 (v1 + 4) (σ.1 v1 9)) ((upI q7.2 (v1 + 6) (σ.1 v1 9) (q7.2.1 1 6)).1 (v1 + 5) (σ.1 v1 9)) ((upI q7.2 (v1 + 6) (σ.1 v1 9) (q7.2.1 1 6)).1 1 6) (σ.1 v1 9) (upI q7.2 (v1 + 6) (σ.1 v1 9) (q7.2.1 1 6)) q9 hk1 ((OK_up (k := (v1 + 6)) (j := (σ.1 v1 9)) okq7 (okq7 1 6)) (v1 + 4) (σ.1 v1 9)) ((OK_up (k := (v1 + 6)) (j := (σ.1 v1 9)) okq7 (okq7 1 6)) (v1 + 5) (σ.1 v1 9)) ((OK_up (k := (v1 + 6)) (j := (σ.1 v1 9)) okq7 (okq7 1 6)) 1 6) (ok v1 9) (OK_up (k := (v1 + 6)) (j := (σ.1 v1 9)) okq7 (okq7 1 6)) eq9) kv_X0_overlaps w661 hk1 rfl rfl rfl rfl (Nat.le_of_ble_eq_true rfl) ⟨rfl, rfl, (Nat.le_of_ble_eq_true rfl), (Nat.le_of_ble_eq_true rfl)⟩ dX8_readPeriod_106 (fun tq9 okq9 => ?_)
          refine at_if_eq (pc := 109) (tgt := 118) C (isB.r tq9) dX8_readPeriod_109 rfl (fun c10 => ?_) (fun c10 => ?_)
          · have hF := (if_pos c10).symm.trans hF
            refine at_aload_n (pc := 118) C 1 dX8_readPeriod_118 rfl rfl ?_
            refine at_ldc (pc := 119) (n := (-99999)) C dX8_readPeriod_119 w665 ?_
            refine at_ldc (pc := 121) (n := 99999) C dX8_readPeriod_121 w666 ?_
            obtain ⟨q11, eq11, hF⟩ := bind_some' hF
            refine at_callV (pc := 123) (ci := 8) C (c_X8_expectNumber l g N (-99999) 99999 (upI q7.2 (v1 + 6) (σ.1 v1 9) (q7.2.1 1 6)) q11 (show inR (-99999) from ⟨by decide, by decide⟩) (show inR 99999 from ⟨by decide, by decide⟩) (OK_up (k := (v1 + 6)) (j := (σ.1 v1 9)) okq7 (okq7 1 6)) eq11) kv_X8_expectNumber w641 kd1 rfl rfl rfl rfl (Nat.le_of_ble_eq_true rfl) ⟨rfl, rfl, (Nat.le_of_ble_eq_true rfl), (Nat.le_of_ble_eq_true rfl)⟩ dX8_readPeriod_123 (fun tq11 okq11 => ?_)
            refine at_if_ne (pc := 126) (tgt := 131) C (isB.r tq11) dX8_readPeriod_126 rfl (fun c12 => ?_) (fun c12 => ?_)
            · have hF := (if_neg c12).symm.trans hF
              refine at_aload_n (pc := 131) C 2 dX8_readPeriod_131 rfl rfl ?_
              refine at_getr (pc := 132) C 7 fw_8_133 hk1 rfl (Nat.le_of_ble_eq_true rfl) rfl rfl dX8_readPeriod_132 ?_
              refine at_iload_n (pc := 135) C 0 dX8_readPeriod_135 rfl rfl ?_
              refine at_aload_n (pc := 136) C 1 dX8_readPeriod_136 rfl rfl ?_
              refine at_geti (pc := 137) (jz := 6) C fw_8_31 kd1 rfl (Nat.le_of_ble_eq_true rfl) rfl rfl dX8_readPeriod_137 ?_
              refine at_iastore (pc := 140) C (kf0_6 hk1) b4 dX8_readPeriod_140 ?_
              refine at_aload_n (pc := 141) C 2 dX8_readPeriod_141 rfl rfl ?_
              refine at_iload_n (pc := 142) C 0 dX8_readPeriod_142 rfl rfl ?_
              refine at_iconst (pc := 143) C dX8_readPeriod_143 ?_
              refine at_iadd (pc := 144) C dX8_readPeriod_144 ?_
              refine at_puti (pc := 145) (jz := 9) C fu_8_115 hk1 rfl (Nat.le_of_ble_eq_true rfl) rfl rfl dX8_readPeriod_145 ?_
              refine at_iconst (pc := 148) C dX8_readPeriod_148 ?_
              obtain rfl := Option.some.inj hF
              exact at_zret (pc := 149) C hr hlk (Or.inr rfl) (OK_up (k := v1) (j := 9) (OK_up (k := (v1 + 7)) (j := (σ.1 v1 9)) okq11 (okq11 1 6)) (ja_R (σ.1 v1 9) 1)) dX8_readPeriod_149
            · have hF := (if_pos c12).symm.trans hF
              refine at_iconst (pc := 129) C dX8_readPeriod_129 ?_
              obtain rfl := Option.some.inj hF
              exact at_zret (pc := 130) C hr hlk (Or.inl rfl) okq11 dX8_readPeriod_130
          · have hF := (if_neg c10).symm.trans hF
            refine at_aload_n (pc := 112) C 1 dX8_readPeriod_112 rfl rfl ?_
            refine at_iconst (pc := 113) C dX8_readPeriod_113 ?_
            obtain ⟨q13, eq13, hF⟩ := bind_some' hF
            refine at_callV (pc := 114) (ci := 8) C (c_X8_fail l g N 3 (upI q7.2 (v1 + 6) (σ.1 v1 9) (q7.2.1 1 6)) q13 (show inR 3 from ⟨by decide, by decide⟩) (OK_up (k := (v1 + 6)) (j := (σ.1 v1 9)) okq7 (okq7 1 6)) eq13) kv_X8_fail w625 kd1 rfl rfl rfl rfl (Nat.le_of_ble_eq_true rfl) ⟨rfl, rfl, (Nat.le_of_ble_eq_true rfl), (Nat.le_of_ble_eq_true rfl)⟩ dX8_readPeriod_114 (fun tq13 okq13 => ?_)
            obtain rfl := Option.some.inj hF
            exact at_zret (pc := 117) C hr hlk tq13 okq13 dX8_readPeriod_117
        · have hF := (if_pos c8).symm.trans hF
          refine at_iconst (pc := 76) C dX8_readPeriod_76 ?_
          obtain rfl := Option.some.inj hF
          exact at_zret (pc := 77) C hr hlk (Or.inl rfl) okq7 dX8_readPeriod_77
      · have hF := (if_pos c6).symm.trans hF
        refine at_iconst (pc := 48) C dX8_readPeriod_48 ?_
        obtain rfl := Option.some.inj hF
        exact at_zret (pc := 49) C hr hlk (Or.inl rfl) okq5 dX8_readPeriod_49
    · have hF := (if_pos c3).symm.trans hF
      refine at_iconst (pc := 25) C dX8_readPeriod_25 ?_
      obtain rfl := Option.some.inj hF
      exact at_zret (pc := 26) C hr hlk (Or.inl rfl) okq2 dX8_readPeriod_26
  · have hF := (if_neg c1).symm.trans hF
    refine at_aload_n (pc := 11) C 1 dX8_readPeriod_11 rfl rfl ?_
    refine at_iconst (pc := 12) C dX8_readPeriod_12 ?_
    obtain ⟨q14, eq14, hF⟩ := bind_some' hF
    refine at_callV (pc := 13) (ci := 8) C (c_X8_fail l g N 2 σ q14 (show inR 2 from ⟨by decide, by decide⟩) ok eq14) kv_X8_fail w625 kd1 rfl rfl rfl rfl (Nat.le_of_ble_eq_true rfl) ⟨rfl, rfl, (Nat.le_of_ble_eq_true rfl), (Nat.le_of_ble_eq_true rfl)⟩ dX8_readPeriod_13 (fun tq14 okq14 => ?_)
    obtain rfl := Option.some.inj hF
    exact at_zret (pc := 16) C hr hlk tq14 okq14 dX8_readPeriod_16
