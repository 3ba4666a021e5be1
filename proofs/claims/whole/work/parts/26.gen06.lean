abbrev rm_X12_isIn : Room := { frames := 0, cells := 0, slots := 0, locals := 0 }
def F_X12_isIn_J14 (N : Nat)   (σ : Sto) : Option (Int) :=
  some 0
def F_X12_isIn (N : Nat) (v0 : Int) (v1 : Int) (v2 : Int) (σ : Sto) : Option (Int) :=
  if v0 < v1 then (F_X12_isIn_J14 N   σ) else (if v2 < v0 then (F_X12_isIn_J14 N   σ) else (some 1))
set_option maxHeartbeats 4000000 in
set_option maxRecDepth 100000 in
theorem c_X12_isIn (l : Launch) (g : Geo) (N : Nat) (v0 : Int) (v1 : Int) (v2 : Int) (σ : Sto) (res : Int) (h0 : inR v0) (h1 : inR v1) (h2 : inR v2) (ok : OK σ) (hF : F_X12_isIn N v0 v1 v2 σ = some res) : MtI l g yX12_isIn cX12_isIn 3 (some .boolean) rm_X12_isIn [vi v0, vi v1, vi v2] σ res σ isB := by
  intro sz
  refine Met.ofAt (own := RX12) (QQ := fun z => QI g z res σ isB) (by decide +kernel) (Nat.le_of_ble_eq_true rfl) rfl ?_
  intro p e s m args below meth c C hr hlk
  show At p l e rm_X12_isIn s m args below meth c 0 0 g 3 (MQ below (QI g s.heap.size res σ isB) args s 0 0 (AA g s.heap.size)) 0 [(0, vi v0), (1, vi v1), (2, vi v2)] [] σ
  unfold F_X12_isIn at hF
  have J14 : F_X12_isIn_J14 N   σ = some res → At p l e rm_X12_isIn s m args below meth c 0 0 g 3 (MQ below (QI g s.heap.size res σ isB) args s 0 0 (AA g s.heap.size)) 14 [] [] σ := by
    intro   hF
    unfold F_X12_isIn_J14 at hF
    refine at_iconst (pc := 14) C dX12_isIn_14 ?_
    obtain rfl := Option.some.inj hF
    exact at_zret (pc := 15) C hr hlk (Or.inl rfl) ok dX12_isIn_15
  refine at_iload_n (pc := 0) C 0 dX12_isIn_0 rfl rfl ?_
  refine at_iload_n (pc := 1) C 1 dX12_isIn_1 rfl rfl ?_
  refine at_icmp_lt (pc := 2) (tgt := 14) C h0 h1 dX12_isIn_2 rfl (fun c1 => ?_) (fun c1 => ?_)
  · have hF := (if_pos c1).symm.trans hF
    refine at_sub (lv' := []) [] rfl ?_
    exact J14  hF
  · have hF := (if_neg c1).symm.trans hF
    refine at_iload_n (pc := 5) C 0 dX12_isIn_5 rfl rfl ?_
    refine at_iload_n (pc := 6) C 2 dX12_isIn_6 rfl rfl ?_
    refine at_icmp_gt (pc := 7) (tgt := 14) C h0 h2 dX12_isIn_7 rfl (fun c2 => ?_) (fun c2 => ?_)
    · have hF := (if_pos c2).symm.trans hF
      refine at_sub (lv' := []) [] rfl ?_
      exact J14  hF
    · have hF := (if_neg c2).symm.trans hF
      refine at_iconst (pc := 10) C dX12_isIn_10 ?_
      refine at_goto (pc := 11) (tgt := 15) C dX12_isIn_11 rfl ?_
      obtain rfl := Option.some.inj hF
      exact at_zret (pc := 15) C hr hlk (Or.inr rfl) ok dX12_isIn_15
abbrev rm_X12_wrong : Room := { frames := 0, cells := 0, slots := 0, locals := 0 }
def F_X12_wrong (N : Nat) (v1 : Int) (σ : Sto) : Option (Int × Sto) :=
  some (0, (upI (upI σ 94 4 v1) 94 5 ((upI σ 94 4 v1).1 94 10)))
set_option maxHeartbeats 4000000 in
set_option maxRecDepth 100000 in
theorem c_X12_wrong (l : Launch) (g : Geo) (N : Nat) (v1 : Int) (σ : Sto) (res : Int × Sto) (h1 : inR v1) (ok : OK σ) (hF : F_X12_wrong N v1 σ = some res) : MtI l g yX12_wrong cX12_wrong 2 (some .boolean) rm_X12_wrong [vr g 94, vi v1] σ res.1 res.2 isB := by
  intro sz
  refine Met.ofAt (own := RX12) (QQ := fun z => QI g z res.1 res.2 isB) (by decide +kernel) (Nat.le_of_ble_eq_true rfl) rfl ?_
  intro p e s m args below meth c C hr hlk
  show At p l e rm_X12_wrong s m args below meth c 0 0 g 2 (MQ below (QI g s.heap.size res.1 res.2 isB) args s 0 0 (AA g s.heap.size)) 0 [(0, vr g 94), (1, vi v1)] [] σ
  unfold F_X12_wrong at hF
  refine at_aload_n (pc := 0) C 0 dX12_wrong_0 rfl rfl ?_
  refine at_iload_n (pc := 1) C 1 dX12_wrong_1 rfl rfl ?_
  refine at_puti (pc := 2) (jz := 4) C fu_12_87 kd94 rfl (Nat.le_of_ble_eq_true rfl) rfl rfl dX12_wrong_2 ?_
  refine at_aload_n (pc := 5) C 0 dX12_wrong_5 rfl rfl ?_
  refine at_aload_n (pc := 6) C 0 dX12_wrong_6 rfl rfl ?_
  refine at_geti (pc := 7) (jz := 10) C fw_12_90 kd94 rfl (Nat.le_of_ble_eq_true rfl) rfl rfl dX12_wrong_7 ?_
  refine at_puti (pc := 10) (jz := 5) C fu_12_16 kd94 rfl (Nat.le_of_ble_eq_true rfl) rfl rfl dX12_wrong_10 ?_
  refine at_iconst (pc := 13) C dX12_wrong_13 ?_
  obtain rfl := Option.some.inj hF
  exact at_zret (pc := 14) C hr hlk (Or.inl rfl) (OK_up (k := 94) (j := 5) (OK_up (k := 94) (j := 4) ok h1) ((OK_up (k := 94) (j := 4) ok h1) 94 10)) dX12_wrong_14
abbrev rm_X12_wordAt : Room := { frames := 0, cells := 0, slots := 0, locals := 0 }
def F_X12_wordAt_J104 (N : Nat) (nx5 : (Int × Int) → Option (Int)) (v1 : Int) (v2 : Int) (v3 : Int) (v4 : Int) (v5 : Int) (v6 : Int) (σ : Sto) : Option (Int) :=
  if v6 = 0 then (nx5 ((ja v3 1), (ja v4 (ja v5 1)))) else (some v3)
def F_X12_wordAt_J96 (N : Nat) (nx5 : (Int × Int) → Option (Int)) (nx57 : (Int × Int) → Option (Int)) (v1 : Int) (v2 : Int) (v3 : Int) (v4 : Int) (v5 : Int) (v7 : Int) (t0 : Int) (σ : Sto) : Option (Int) :=
  nx57 (t0, (ja v7 1))
def F_X12_wordAt_B57 (N : Nat) (nx5 : (Int × Int) → Option (Int)) (nx57 : (Int × Int) → Option (Int)) (v1 : Int) (v2 : Int) (v3 : Int) (v4 : Int) (v5 : Int) (v6 : Int) (v7 : Int) (σ : Sto) : Option (Int) :=
  if v5 ≤ v7 then (F_X12_wordAt_J104 N nx5 v1 v2 v3 v4 v5 v6 σ) else (if v6 = 0 then (F_X12_wordAt_J104 N nx5 v1 v2 v3 v4 v5 v6 σ) else (inb (ja v4 v7) 41 (inb (ja v1 v7) 700 (if (σ.1 96 (ja v4 v7)) = (σ.1 95 (ja v1 v7)) then (F_X12_wordAt_J96 N nx5 nx57 v1 v2 v3 v4 v5 v7 1 σ) else (F_X12_wordAt_J96 N nx5 nx57 v1 v2 v3 v4 v5 v7 0 σ)))))
def F_X12_wordAt_J52 (N : Nat) (nx5 : (Int × Int) → Option (Int)) (v1 : Int) (v2 : Int) (v3 : Int) (v4 : Int) (v5 : Int) (t0 : Int) (σ : Sto) : Option (Int) :=
  loopK (fun q nx57 => F_X12_wordAt_B57 N nx5 nx57 v1 v2 v3 v4 v5 q.1 q.2 σ) N (t0, 0)
def F_X12_wordAt_J39 (N : Nat) (nx5 : (Int × Int) → Option (Int)) (v1 : Int) (v2 : Int) (v3 : Int) (v4 : Int) (v5 : Int) (σ : Sto) : Option (Int) :=
  if v5 = (js v2 v1) then (F_X12_wordAt_J52 N nx5 v1 v2 v3 v4 v5 1 σ) else (F_X12_wordAt_J52 N nx5 v1 v2 v3 v4 v5 0 σ)
def F_X12_wordAt_B18 (N : Nat) (nx5 : (Int × Int) → Option (Int)) (nx18 : (Int) → Option (Int)) (v1 : Int) (v2 : Int) (v3 : Int) (v4 : Int) (v5 : Int) (σ : Sto) : Option (Int) :=
  inb (ja v4 v5) 41 (if (σ.1 96 (ja v4 v5)) = 32 then (F_X12_wordAt_J39 N nx5 v1 v2 v3 v4 v5 σ) else (nx18 (ja v5 1)))
def F_X12_wordAt_B5 (N : Nat) (nx5 : (Int × Int) → Option (Int)) (v1 : Int) (v2 : Int) (v3 : Int) (v4 : Int) (σ : Sto) : Option (Int) :=
  if 41 ≤ v4 then (some (-1)) else (loopK (fun q nx18 => F_X12_wordAt_B18 N nx5 nx18 v1 v2 v3 v4 q σ) N 0)
def F_X12_wordAt (N : Nat) (v1 : Int) (v2 : Int) (σ : Sto) : Option (Int) :=
  loopK (fun q nx5 => F_X12_wordAt_B5 N  nx5 v1 v2 q.1 q.2 σ) N (0, 0)
set_option maxHeartbeats 4000000 in
set_option maxRecDepth 100000 in
theorem c_X12_wordAt (l : Launch) (g : Geo) (N : Nat) (v1 : Int) (v2 : Int) (σ : Sto) (res : Int) (h1 : inR v1) (h2 : inR v2) (ok : OK σ) (hF : F_X12_wordAt N v1 v2 σ = some res) : MtI l g yX12_wordAt cX12_wordAt 8 (some .int) rm_X12_wordAt [vr g 94, vi v1, vi v2] σ res σ inR := by
  intro sz
  refine Met.ofAt (own := RX12) (QQ := fun z => QI g z res σ inR) (by decide +kernel) (Nat.le_of_ble_eq_true rfl) rfl ?_
  intro p e s m args below meth c C hr hlk
  show At p l e rm_X12_wordAt s m args below meth c 0 0 g 8 (MQ below (QI g s.heap.size res σ inR) args s 0 0 (AA g s.heap.size)) 0 [(0, vr g 94), (1, vi v1), (2, vi v2)] [] σ
  unfold F_X12_wordAt at hF
  refine at_iconst (pc := 0) C dX12_wordAt_0 ?_
  refine at_istore_n (pc := 1) (lv' := [(3, vi 0), (0, vr g 94), (1, vi v1), (2, vi v2)]) C dX12_wordAt_1 rfl (Nat.le_of_ble_eq_true rfl) rfl ?_
  refine at_iconst (pc := 2) C dX12_wordAt_2 ?_
  refine at_istore (pc := 3) (lv' := [(4, vi 0), (3, vi 0), (0, vr g 94), (1, vi v1), (2, vi v2)]) C dX12_wordAt_3 (Nat.le_of_ble_eq_true rfl) rfl ?_
  have L5 : ∀ (v1 : Int) (v2 : Int) (v3 : Int) (v4 : Int), inR v1 → inR v2 → inR v3 → inR v4 → loopK (fun q nx5 => F_X12_wordAt_B5 N  nx5 v1 v2 q.1 q.2 σ) N (v3, v4) = some res → At p l e rm_X12_wordAt s m args below meth c 0 0 g 8 (MQ below (QI g s.heap.size res σ inR) args s 0 0 (AA g s.heap.size)) 5 [(0, vr g 94), (1, vi v1), (2, vi v2), (3, vi v3), (4, vi v4)] [] σ := by
    intro v1 v2 v3 v4 h1 h2 h3 h4 hF
    refine loopK_ind (res := res) (P := fun (q : Int × Int) => inR q.1 → inR q.2 → At p l e rm_X12_wordAt s m args below meth c 0 0 g 8 (MQ below (QI g s.heap.size res σ inR) args s 0 0 (AA g s.heap.size)) 5 [(0, vr g 94), (1, vi v1), (2, vi v2), (3, vi q.1), (4, vi q.2)] [] σ) ?_ N _ hF h3 h4
    intro nx5 q ih5 hF
    obtain ⟨v3, v4⟩ := q
    intro h3 h4
    have hF : F_X12_wordAt_B5 N  nx5 v1 v2 v3 v4 σ = some res := hF
    unfold F_X12_wordAt_B5 at hF
    refine at_iload (pc := 5) C 4 dX12_wordAt_5 rfl ?_
    refine at_aload_n (pc := 7) C 0 dX12_wordAt_7 rfl rfl ?_
    refine at_getr (pc := 8) (k' := 96) C 2 fw_12_13 kd94 rfl (Nat.le_of_ble_eq_true rfl) rfl rfl dX12_wordAt_8 ?_
    refine at_alen (pc := 11) (nz := 41) C kd96 rfl dX12_wordAt_11 ?_
    refine at_icmp_ge (pc := 12) (tgt := 126) C h4 (show inR 41 from ⟨by decide, by decide⟩) dX12_wordAt_12 rfl (fun c1 => ?_) (fun c1 => ?_)
    · have hF := (if_pos c1).symm.trans hF
      refine at_iconst (pc := 126) C dX12_wordAt_126 ?_
      obtain rfl := Option.some.inj hF
      exact at_iret (pc := 127) C hr hlk (show inR (-1) from ⟨by decide, by decide⟩) ok dX12_wordAt_127
    · have hF := (if_neg c1).symm.trans hF
      refine at_iconst (pc := 15) C dX12_wordAt_15 ?_
      refine at_istore (pc := 16) (lv' := [(5, vi 0), (0, vr g 94), (1, vi v1), (2, vi v2), (3, vi v3), (4, vi v4)]) C dX12_wordAt_16 (Nat.le_of_ble_eq_true rfl) rfl ?_
      have L18 : ∀ (v3 : Int) (v4 : Int) (v5 : Int), inR v3 → inR v4 → inR v5 → loopK (fun q nx18 => F_X12_wordAt_B18 N nx5 nx18 v1 v2 v3 v4 q σ) N v5 = some res → At p l e rm_X12_wordAt s m args below meth c 0 0 g 8 (MQ below (QI g s.heap.size res σ inR) args s 0 0 (AA g s.heap.size)) 18 [(0, vr g 94), (1, vi v1), (2, vi v2), (3, vi v3), (4, vi v4), (5, vi v5)] [] σ := by
        intro v3 v4 v5 h3 h4 h5 hF
        refine loopK_ind (res := res) (P := fun (q : Int) => inR q → At p l e rm_X12_wordAt s m args below meth c 0 0 g 8 (MQ below (QI g s.heap.size res σ inR) args s 0 0 (AA g s.heap.size)) 18 [(0, vr g 94), (1, vi v1), (2, vi v2), (3, vi v3), (4, vi v4), (5, vi q)] [] σ) ?_ N _ hF h5
        intro nx18 v5 ih18 hF h5
        have hF : F_X12_wordAt_B18 N nx5 nx18 v1 v2 v3 v4 v5 σ = some res := hF
        unfold F_X12_wordAt_B18 at hF
        have J39 : ∀ (v3 : Int) (v4 : Int) (v5 : Int), inR v3 → inR v4 → inR v5 → F_X12_wordAt_J39 N nx5 v1 v2 v3 v4 v5 σ = some res → At p l e rm_X12_wordAt s m args below meth c 0 0 g 8 (MQ below (QI g s.heap.size res σ inR) args s 0 0 (AA g s.heap.size)) 39 [(0, vr g 94), (1, vi v1), (2, vi v2), (3, vi v3), (4, vi v4), (5, vi v5)] [] σ := by
          intro v3 v4 v5 h3 h4 h5 hF
          unfold F_X12_wordAt_J39 at hF
          have J52 : ∀ (v3 : Int) (v4 : Int) (v5 : Int) (t0 : Int), inR v3 → inR v4 → inR v5 → isB t0 → F_X12_wordAt_J52 N nx5 v1 v2 v3 v4 v5 t0 σ = some res → At p l e rm_X12_wordAt s m args below meth c 0 0 g 8 (MQ below (QI g s.heap.size res σ inR) args s 0 0 (AA g s.heap.size)) 52 [(0, vr g 94), (1, vi v1), (2, vi v2), (3, vi v3), (4, vi v4), (5, vi v5)] [vi t0] σ := by
            intro v3 v4 v5 t0 h3 h4 h5 ht0 hF
            unfold F_X12_wordAt_J52 at hF
            refine at_istore (pc := 52) (lv' := [(6, vi t0), (0, vr g 94), (1, vi v1), (2, vi v2), (3, vi v3), (4, vi v4), (5, vi v5)]) C dX12_wordAt_52 (Nat.le_of_ble_eq_true rfl) rfl ?_
            refine at_iconst (pc := 54) C dX12_wordAt_54 ?_
            refine at_istore (pc := 55) (lv' := [(7, vi 0), (6, vi t0), (0, vr g 94), (1, vi v1), (2, vi v2), (3, vi v3), (4, vi v4), (5, vi v5)]) C dX12_wordAt_55 (Nat.le_of_ble_eq_true rfl) rfl ?_
            have L57 : ∀ (v3 : Int) (v4 : Int) (v5 : Int) (v6 : Int) (v7 : Int), inR v3 → inR v4 → inR v5 → isB v6 → inR v7 → loopK (fun q nx57 => F_X12_wordAt_B57 N nx5 nx57 v1 v2 v3 v4 v5 q.1 q.2 σ) N (v6, v7) = some res → At p l e rm_X12_wordAt s m args below meth c 0 0 g 8 (MQ below (QI g s.heap.size res σ inR) args s 0 0 (AA g s.heap.size)) 57 [(0, vr g 94), (1, vi v1), (2, vi v2), (3, vi v3), (4, vi v4), (5, vi v5), (6, vi v6), (7, vi v7)] [] σ := by
              intro v3 v4 v5 v6 v7 h3 h4 h5 h6 h7 hF
              refine loopK_ind (res := res) (P := fun (q : Int × Int) => isB q.1 → inR q.2 → At p l e rm_X12_wordAt s m args below meth c 0 0 g 8 (MQ below (QI g s.heap.size res σ inR) args s 0 0 (AA g s.heap.size)) 57 [(0, vr g 94), (1, vi v1), (2, vi v2), (3, vi v3), (4, vi v4), (5, vi v5), (6, vi q.1), (7, vi q.2)] [] σ) ?_ N _ hF h6 h7
              intro nx57 q ih57 hF
              obtain ⟨v6, v7⟩ := q
              intro h6 h7
              have hF : F_X12_wordAt_B57 N nx5 nx57 v1 v2 v3 v4 v5 v6 v7 σ = some res := hF
              unfold F_X12_wordAt_B57 at hF
              have J104 : ∀ (v3 : Int) (v4 : Int) (v5 : Int) (v6 : Int), inR v3 → inR v4 → inR v5 → isB v6 → F_X12_wordAt_J104 N nx5 v1 v2 v3 v4 v5 v6 σ = some res → At p l e rm_X12_wordAt s m args below meth c 0 0 g 8 (MQ below (QI g s.heap.size res σ inR) args s 0 0 (AA g s.heap.size)) 104 [(0, vr g 94), (1, vi v1), (2, vi v2), (3, vi v3), (4, vi v4), (5, vi v5), (6, vi v6)] [] σ := by
                intro v3 v4 v5 v6 h3 h4 h5 h6 hF
                unfold F_X12_wordAt_J104 at hF
                refine at_iload (pc := 104) C 6 dX12_wordAt_104 rfl ?_
                refine at_if_eq (pc := 106) (tgt := 111) C (isB.r h6) dX12_wordAt_106 rfl (fun c2 => ?_) (fun c2 => ?_)
                · have hF := (if_pos c2).symm.trans hF
                  refine at_iload (pc := 111) C 4 dX12_wordAt_111 rfl ?_
                  refine at_iload (pc := 113) C 5 dX12_wordAt_113 rfl ?_
                  refine at_iconst (pc := 115) C dX12_wordAt_115 ?_
                  refine at_iadd (pc := 116) C dX12_wordAt_116 ?_
                  refine at_iadd (pc := 117) C dX12_wordAt_117 ?_
                  refine at_istore (pc := 118) (lv' := [(4, vi (ja v4 (ja v5 1))), (0, vr g 94), (1, vi v1), (2, vi v2), (3, vi v3), (5, vi v5), (6, vi v6)]) C dX12_wordAt_118 (Nat.le_of_ble_eq_true rfl) rfl ?_
                  refine at_iinc (pc := 120) (lv' := [(3, vi (ja v3 1)), (4, vi (ja v4 (ja v5 1))), (0, vr g 94), (1, vi v1), (2, vi v2), (5, vi v5), (6, vi v6)]) C 4 dX12_wordAt_120 rfl (Nat.le_of_ble_eq_true rfl) rfl ?_
                  refine at_goto (pc := 123) (tgt := 5) C dX12_wordAt_123 rfl ?_
                  refine at_sub (lv' := [(0, vr g 94), (1, vi v1), (2, vi v2), (3, vi (ja v3 1)), (4, vi (ja v4 (ja v5 1)))]) [2, 3, 4, 0, 1] rfl ?_
                  exact ih5 _ hF (ja_R v3 1) (ja_R v4 (ja v5 1))
                · have hF := (if_neg c2).symm.trans hF
                  refine at_iload_n (pc := 109) C 3 dX12_wordAt_109 rfl rfl ?_
                  obtain rfl := Option.some.inj hF
                  exact at_iret (pc := 110) C hr hlk h3 ok dX12_wordAt_110
              refine at_iload (pc := 57) C 7 dX12_wordAt_57 rfl ?_
              refine at_iload (pc := 59) C 5 dX12_wordAt_59 rfl ?_
              refine at_icmp_ge (pc := 61) (tgt := 104) C h7 h5 dX12_wordAt_61 rfl (fun c3 => ?_) (fun c3 => ?_)
              · have hF := (if_pos c3).symm.trans hF
                refine at_sub (lv' := [(0, vr g 94), (1, vi v1), (2, vi v2), (3, vi v3), (4, vi v4), (5, vi v5), (6, vi v6)]) [0, 1, 2, 3, 4, 5, 6] rfl ?_
                exact J104 v3 v4 v5 v6 h3 h4 h5 h6 hF
              · have hF := (if_neg c3).symm.trans hF
                refine at_iload (pc := 64) C 6 dX12_wordAt_64 rfl ?_
                refine at_if_eq (pc := 66) (tgt := 104) C (isB.r h6) dX12_wordAt_66 rfl (fun c4 => ?_) (fun c4 => ?_)
                · have hF := (if_pos c4).symm.trans hF
                  refine at_sub (lv' := [(0, vr g 94), (1, vi v1), (2, vi v2), (3, vi v3), (4, vi v4), (5, vi v5), (6, vi v6)]) [0, 1, 2, 3, 4, 5, 6] rfl ?_
                  exact J104 v3 v4 v5 v6 h3 h4 h5 h6 hF
                · have hF := (if_neg c4).symm.trans hF
                  have J96 : ∀ (v7 : Int) (t0 : Int), inR v7 → isB t0 → F_X12_wordAt_J96 N nx5 nx57 v1 v2 v3 v4 v5 v7 t0 σ = some res → At p l e rm_X12_wordAt s m args below meth c 0 0 g 8 (MQ below (QI g s.heap.size res σ inR) args s 0 0 (AA g s.heap.size)) 96 [(0, vr g 94), (1, vi v1), (2, vi v2), (3, vi v3), (4, vi v4), (5, vi v5), (7, vi v7)] [vi t0] σ := by
                    intro v7 t0 h7 ht0 hF
                    unfold F_X12_wordAt_J96 at hF
                    refine at_istore (pc := 96) (lv' := [(6, vi t0), (0, vr g 94), (1, vi v1), (2, vi v2), (3, vi v3), (4, vi v4), (5, vi v5), (7, vi v7)]) C dX12_wordAt_96 (Nat.le_of_ble_eq_true rfl) rfl ?_
                    refine at_iinc (pc := 98) (lv' := [(7, vi (ja v7 1)), (6, vi t0), (0, vr g 94), (1, vi v1), (2, vi v2), (3, vi v3), (4, vi v4), (5, vi v5)]) C 7 dX12_wordAt_98 rfl (Nat.le_of_ble_eq_true rfl) rfl ?_
                    refine at_goto (pc := 101) (tgt := 57) C dX12_wordAt_101 rfl ?_
                    refine at_sub (lv' := [(0, vr g 94), (1, vi v1), (2, vi v2), (3, vi v3), (4, vi v4), (5, vi v5), (6, vi t0), (7, vi (ja v7 1))]) [2, 3, 4, 5, 6, 7, 1, 0] rfl ?_
                    exact ih57 _ hF ht0 (ja_R v7 1)
                  refine at_aload_n (pc := 69) C 0 dX12_wordAt_69 rfl rfl ?_
                  refine at_getr (pc := 70) (k' := 96) C 2 fw_12_13 kd94 rfl (Nat.le_of_ble_eq_true rfl) rfl rfl dX12_wordAt_70 ?_
                  refine at_iload (pc := 73) C 4 dX12_wordAt_73 rfl ?_
                  refine at_iload (pc := 75) C 7 dX12_wordAt_75 rfl ?_
                  refine at_iadd (pc := 77) C dX12_wordAt_77 ?_
                  obtain ⟨b5, hF⟩ := inb_some hF
                  refine at_iaload (pc := 78) C kd96 b5 dX12_wordAt_78 ?_
                  refine at_aload_n (pc := 79) C 0 dX12_wordAt_79 rfl rfl ?_
                  refine at_getr (pc := 80) (k' := 95) C 1 fw_12_7 kd94 rfl (Nat.le_of_ble_eq_true rfl) rfl rfl dX12_wordAt_80 ?_
                  refine at_iload_n (pc := 83) C 1 dX12_wordAt_83 rfl rfl ?_
                  refine at_iload (pc := 84) C 7 dX12_wordAt_84 rfl ?_
                  refine at_iadd (pc := 86) C dX12_wordAt_86 ?_
                  obtain ⟨b6, hF⟩ := inb_some hF
                  refine at_iaload (pc := 87) C kd95 b6 dX12_wordAt_87 ?_
                  refine at_icmp_ne (pc := 88) (tgt := 95) C (ok 96 (ja v4 v7)) (ok 95 (ja v1 v7)) dX12_wordAt_88 rfl (fun c7 => ?_) (fun c7 => ?_)
                  · have hF := (if_neg c7).symm.trans hF
                    refine at_iconst (pc := 95) C dX12_wordAt_95 ?_
                    refine at_sub (lv' := [(0, vr g 94), (1, vi v1), (2, vi v2), (3, vi v3), (4, vi v4), (5, vi v5), (7, vi v7)]) [0, 1, 2, 3, 4, 5, 7] rfl ?_
                    exact J96 v7 0 h7 (Or.inl rfl) hF
                  · have hF := (if_pos c7).symm.trans hF
                    refine at_iconst (pc := 91) C dX12_wordAt_91 ?_
                    refine at_goto (pc := 92) (tgt := 96) C dX12_wordAt_92 rfl ?_
                    refine at_sub (lv' := [(0, vr g 94), (1, vi v1), (2, vi v2), (3, vi v3), (4, vi v4), (5, vi v5), (7, vi v7)]) [0, 1, 2, 3, 4, 5, 7] rfl ?_
                    exact J96 v7 1 h7 (Or.inr rfl) hF
            refine at_sub (lv' := [(0, vr g 94), (1, vi v1), (2, vi v2), (3, vi v3), (4, vi v4), (5, vi v5), (6, vi t0), (7, vi 0)]) [2, 3, 4, 5, 6, 7, 1, 0] rfl ?_
            exact L57 v3 v4 v5 t0 0 h3 h4 h5 ht0 (isB.r (Or.inl rfl)) hF
          refine at_iload (pc := 39) C 5 dX12_wordAt_39 rfl ?_
          refine at_iload_n (pc := 41) C 2 dX12_wordAt_41 rfl rfl ?_
          refine at_iload_n (pc := 42) C 1 dX12_wordAt_42 rfl rfl ?_
          refine at_isub (pc := 43) C dX12_wordAt_43 ?_
          refine at_icmp_ne (pc := 44) (tgt := 51) C h5 (js_R v2 v1) dX12_wordAt_44 rfl (fun c8 => ?_) (fun c8 => ?_)
          · have hF := (if_neg c8).symm.trans hF
            refine at_iconst (pc := 51) C dX12_wordAt_51 ?_
            exact J52 v3 v4 v5 0 h3 h4 h5 (Or.inl rfl) hF
          · have hF := (if_pos c8).symm.trans hF
            refine at_iconst (pc := 47) C dX12_wordAt_47 ?_
            refine at_goto (pc := 48) (tgt := 52) C dX12_wordAt_48 rfl ?_
            exact J52 v3 v4 v5 1 h3 h4 h5 (Or.inr rfl) hF
        refine at_aload_n (pc := 18) C 0 dX12_wordAt_18 rfl rfl ?_
        refine at_getr (pc := 19) (k' := 96) C 2 fw_12_13 kd94 rfl (Nat.le_of_ble_eq_true rfl) rfl rfl dX12_wordAt_19 ?_
        refine at_iload (pc := 22) C 4 dX12_wordAt_22 rfl ?_
        refine at_iload (pc := 24) C 5 dX12_wordAt_24 rfl ?_
        refine at_iadd (pc := 26) C dX12_wordAt_26 ?_
        obtain ⟨b9, hF⟩ := inb_some hF
        refine at_iaload (pc := 27) C kd96 b9 dX12_wordAt_27 ?_
        refine at_bipush (pc := 28) C dX12_wordAt_28 (by decide) ?_
        refine at_icmp_eq (pc := 30) (tgt := 39) C (ok 96 (ja v4 v5)) (show inR 32 from ⟨by decide, by decide⟩) dX12_wordAt_30 rfl (fun c10 => ?_) (fun c10 => ?_)
        · have hF := (if_pos c10).symm.trans hF
          exact J39 v3 v4 v5 h3 h4 h5 hF
        · have hF := (if_neg c10).symm.trans hF
          refine at_iinc (pc := 33) (lv' := [(5, vi (ja v5 1)), (0, vr g 94), (1, vi v1), (2, vi v2), (3, vi v3), (4, vi v4)]) C 5 dX12_wordAt_33 rfl (Nat.le_of_ble_eq_true rfl) rfl ?_
          refine at_goto (pc := 36) (tgt := 18) C dX12_wordAt_36 rfl ?_
          refine at_sub (lv' := [(0, vr g 94), (1, vi v1), (2, vi v2), (3, vi v3), (4, vi v4), (5, vi (ja v5 1))]) [1, 2, 3, 4, 5, 0] rfl ?_
          exact ih18 _ hF (ja_R v5 1)
      refine at_sub (lv' := [(0, vr g 94), (1, vi v1), (2, vi v2), (3, vi v3), (4, vi v4), (5, vi 0)]) [1, 2, 3, 4, 5, 0] rfl ?_
      exact L18 v3 v4 0 h3 h4 (isB.r (Or.inl rfl)) hF
  refine at_sub (lv' := [(0, vr g 94), (1, vi v1), (2, vi v2), (3, vi 0), (4, vi 0)]) [2, 3, 4, 1, 0] rfl ?_
  exact L5 v1 v2 0 0 h1 h2 (isB.r (Or.inl rfl)) (isB.r (Or.inl rfl)) hF
abbrev rm_X12_isSmall : Room := { frames := 0, cells := 0, slots := 0, locals := 0 }
def F_X12_isSmall_J34 (N : Nat)   (σ : Sto) : Option (Int) :=
  some 0
def F_X12_isSmall (N : Nat) (v1 : Int) (σ : Sto) : Option (Int) :=
  if (σ.1 94 6) ≤ v1 then (F_X12_isSmall_J34 N   σ) else (inb v1 700 (if (σ.1 95 v1) < 97 then (F_X12_isSmall_J34 N   σ) else (if 122 < (σ.1 95 v1) then (F_X12_isSmall_J34 N   σ) else (some 1))))
set_option maxHeartbeats 4000000 in
set_option maxRecDepth 100000 in
theorem c_X12_isSmall (l : Launch) (g : Geo) (N : Nat) (v1 : Int) (σ : Sto) (res : Int) (h1 : inR v1) (ok : OK σ) (hF : F_X12_isSmall N v1 σ = some res) : MtI l g yX12_isSmall cX12_isSmall 2 (some .boolean) rm_X12_isSmall [vr g 94, vi v1] σ res σ isB := by
  intro sz
  refine Met.ofAt (own := RX12) (QQ := fun z => QI g z res σ isB) (by decide +kernel) (Nat.le_of_ble_eq_true rfl) rfl ?_
  intro p e s m args below meth c C hr hlk
  show At p l e rm_X12_isSmall s m args below meth c 0 0 g 2 (MQ below (QI g s.heap.size res σ isB) args s 0 0 (AA g s.heap.size)) 0 [(0, vr g 94), (1, vi v1)] [] σ
  unfold F_X12_isSmall at hF
  have J34 : F_X12_isSmall_J34 N   σ = some res → At p l e rm_X12_isSmall s m args below meth c 0 0 g 2 (MQ below (QI g s.heap.size res σ isB) args s 0 0 (AA g s.heap.size)) 34 [] [] σ := by
    intro   hF
    unfold F_X12_isSmall_J34 at hF
    refine at_iconst (pc := 34) C dX12_isSmall_34 ?_
    obtain rfl := Option.some.inj hF
    exact at_zret (pc := 35) C hr hlk (Or.inl rfl) ok dX12_isSmall_35
  refine at_iload_n (pc := 0) C 1 dX12_isSmall_0 rfl rfl ?_
  refine at_aload_n (pc := 1) C 0 dX12_isSmall_1 rfl rfl ?_
  refine at_geti (pc := 2) (jz := 6) C fw_12_93 kd94 rfl (Nat.le_of_ble_eq_true rfl) rfl rfl dX12_isSmall_2 ?_
  refine at_icmp_ge (pc := 5) (tgt := 34) C h1 (ok 94 6) dX12_isSmall_5 rfl (fun c1 => ?_) (fun c1 => ?_)
  · have hF := (if_pos c1).symm.trans hF
    refine at_sub (lv' := []) [] rfl ?_
    exact J34  hF
  · have hF := (if_neg c1).symm.trans hF
    refine at_aload_n (pc := 8) C 0 dX12_isSmall_8 rfl rfl ?_
    refine at_getr (pc := 9) (k' := 95) C 1 fw_12_7 kd94 rfl (Nat.le_of_ble_eq_true rfl) rfl rfl dX12_isSmall_9 ?_
    refine at_iload_n (pc := 12) C 1 dX12_isSmall_12 rfl rfl ?_
    obtain ⟨b2, hF⟩ := inb_some hF
    refine at_iaload (pc := 13) C kd95 b2 dX12_isSmall_13 ?_
    refine at_bipush (pc := 14) C dX12_isSmall_14 (by decide) ?_
    refine at_icmp_lt (pc := 16) (tgt := 34) C (ok 95 v1) (show inR 97 from ⟨by decide, by decide⟩) dX12_isSmall_16 rfl (fun c3 => ?_) (fun c3 => ?_)
    · have hF := (if_pos c3).symm.trans hF
      refine at_sub (lv' := []) [] rfl ?_
      exact J34  hF
    · have hF := (if_neg c3).symm.trans hF
      refine at_aload_n (pc := 19) C 0 dX12_isSmall_19 rfl rfl ?_
      refine at_getr (pc := 20) (k' := 95) C 1 fw_12_7 kd94 rfl (Nat.le_of_ble_eq_true rfl) rfl rfl dX12_isSmall_20 ?_
      refine at_iload_n (pc := 23) C 1 dX12_isSmall_23 rfl rfl ?_
      refine at_iaload (pc := 24) C kd95 b2 dX12_isSmall_24 ?_
      refine at_bipush (pc := 25) C dX12_isSmall_25 (by decide) ?_
      refine at_icmp_gt (pc := 27) (tgt := 34) C (ok 95 v1) (show inR 122 from ⟨by decide, by decide⟩) dX12_isSmall_27 rfl (fun c4 => ?_) (fun c4 => ?_)
      · have hF := (if_pos c4).symm.trans hF
        refine at_sub (lv' := []) [] rfl ?_
        exact J34  hF
      · have hF := (if_neg c4).symm.trans hF
        refine at_iconst (pc := 30) C dX12_isSmall_30 ?_
        refine at_goto (pc := 31) (tgt := 35) C dX12_isSmall_31 rfl ?_
        obtain rfl := Option.some.inj hF
        exact at_zret (pc := 35) C hr hlk (Or.inr rfl) ok dX12_isSmall_35
abbrev rm_X12_isDigit : Room := { frames := 0, cells := 0, slots := 0, locals := 0 }
def F_X12_isDigit_J34 (N : Nat)   (σ : Sto) : Option (Int) :=
  some 0
def F_X12_isDigit (N : Nat) (v1 : Int) (σ : Sto) : Option (Int) :=
  if (σ.1 94 6) ≤ v1 then (F_X12_isDigit_J34 N   σ) else (inb v1 700 (if (σ.1 95 v1) < 48 then (F_X12_isDigit_J34 N   σ) else (if 57 < (σ.1 95 v1) then (F_X12_isDigit_J34 N   σ) else (some 1))))
set_option maxHeartbeats 4000000 in
set_option maxRecDepth 100000 in
theorem c_X12_isDigit (l : Launch) (g : Geo) (N : Nat) (v1 : Int) (σ : Sto) (res : Int) (h1 : inR v1) (ok : OK σ) (hF : F_X12_isDigit N v1 σ = some res) : MtI l g yX12_isDigit cX12_isDigit 2 (some .boolean) rm_X12_isDigit [vr g 94, vi v1] σ res σ isB := by
  intro sz
  refine Met.ofAt (own := RX12) (QQ := fun z => QI g z res σ isB) (by decide +kernel) (Nat.le_of_ble_eq_true rfl) rfl ?_
  intro p e s m args below meth c C hr hlk
  show At p l e rm_X12_isDigit s m args below meth c 0 0 g 2 (MQ below (QI g s.heap.size res σ isB) args s 0 0 (AA g s.heap.size)) 0 [(0, vr g 94), (1, vi v1)] [] σ
  unfold F_X12_isDigit at hF
  have J34 : F_X12_isDigit_J34 N   σ = some res → At p l e rm_X12_isDigit s m args below meth c 0 0 g 2 (MQ below (QI g s.heap.size res σ isB) args s 0 0 (AA g s.heap.size)) 34 [] [] σ := by
    intro   hF
    unfold F_X12_isDigit_J34 at hF
    refine at_iconst (pc := 34) C dX12_isDigit_34 ?_
    obtain rfl := Option.some.inj hF
    exact at_zret (pc := 35) C hr hlk (Or.inl rfl) ok dX12_isDigit_35
  refine at_iload_n (pc := 0) C 1 dX12_isDigit_0 rfl rfl ?_
  refine at_aload_n (pc := 1) C 0 dX12_isDigit_1 rfl rfl ?_
  refine at_geti (pc := 2) (jz := 6) C fw_12_93 kd94 rfl (Nat.le_of_ble_eq_true rfl) rfl rfl dX12_isDigit_2 ?_
  refine at_icmp_ge (pc := 5) (tgt := 34) C h1 (ok 94 6) dX12_isDigit_5 rfl (fun c1 => ?_) (fun c1 => ?_)
  · have hF := (if_pos c1).symm.trans hF
    refine at_sub (lv' := []) [] rfl ?_
    exact J34  hF
  · have hF := (if_neg c1).symm.trans hF
    refine at_aload_n (pc := 8) C 0 dX12_isDigit_8 rfl rfl ?_
    refine at_getr (pc := 9) (k' := 95) C 1 fw_12_7 kd94 rfl (Nat.le_of_ble_eq_true rfl) rfl rfl dX12_isDigit_9 ?_
    refine at_iload_n (pc := 12) C 1 dX12_isDigit_12 rfl rfl ?_
    obtain ⟨b2, hF⟩ := inb_some hF
    refine at_iaload (pc := 13) C kd95 b2 dX12_isDigit_13 ?_
    refine at_bipush (pc := 14) C dX12_isDigit_14 (by decide) ?_
    refine at_icmp_lt (pc := 16) (tgt := 34) C (ok 95 v1) (show inR 48 from ⟨by decide, by decide⟩) dX12_isDigit_16 rfl (fun c3 => ?_) (fun c3 => ?_)
    · have hF := (if_pos c3).symm.trans hF
      refine at_sub (lv' := []) [] rfl ?_
      exact J34  hF
    · have hF := (if_neg c3).symm.trans hF
      refine at_aload_n (pc := 19) C 0 dX12_isDigit_19 rfl rfl ?_
      refine at_getr (pc := 20) (k' := 95) C 1 fw_12_7 kd94 rfl (Nat.le_of_ble_eq_true rfl) rfl rfl dX12_isDigit_20 ?_
      refine at_iload_n (pc := 23) C 1 dX12_isDigit_23 rfl rfl ?_
      refine at_iaload (pc := 24) C kd95 b2 dX12_isDigit_24 ?_
      refine at_bipush (pc := 25) C dX12_isDigit_25 (by decide) ?_
      refine at_icmp_gt (pc := 27) (tgt := 34) C (ok 95 v1) (show inR 57 from ⟨by decide, by decide⟩) dX12_isDigit_27 rfl (fun c4 => ?_) (fun c4 => ?_)
      · have hF := (if_pos c4).symm.trans hF
        refine at_sub (lv' := []) [] rfl ?_
        exact J34  hF
      · have hF := (if_neg c4).symm.trans hF
        refine at_iconst (pc := 30) C dX12_isDigit_30 ?_
        refine at_goto (pc := 31) (tgt := 35) C dX12_isDigit_31 rfl ?_
        obtain rfl := Option.some.inj hF
        exact at_zret (pc := 35) C hr hlk (Or.inr rfl) ok dX12_isDigit_35
abbrev rm_X12_packed : Room := { frames := 0, cells := 0, slots := 0, locals := 0 }
def F_X12_packed_J37 (N : Nat) (nx5 : (Int × Int) → Option (Int)) (v1 : Int) (v2 : Int) (v4 : Int) (t0 : Int) (t1 : Int) (σ : Sto) : Option (Int) :=
  nx5 ((jor t0 t1), (ja v4 1))
def F_X12_packed_B5 (N : Nat) (nx5 : (Int × Int) → Option (Int)) (v1 : Int) (v2 : Int) (v3 : Int) (v4 : Int) (σ : Sto) : Option (Int) :=
  if (ja v1 6) ≤ v4 then (some v3) else (if v2 ≤ v4 then (F_X12_packed_J37 N nx5 v1 v2 v4 (jshl v3 5) 0 σ) else (inb v4 700 (F_X12_packed_J37 N nx5 v1 v2 v4 (jshl v3 5) (js (σ.1 95 v4) 96) σ)))
def F_X12_packed (N : Nat) (v1 : Int) (v2 : Int) (σ : Sto) : Option (Int) :=
  loopK (fun q nx5 => F_X12_packed_B5 N  nx5 v1 v2 q.1 q.2 σ) N (0, v1)
set_option maxHeartbeats 4000000 in
set_option maxRecDepth 100000 in
theorem c_X12_packed (l : Launch) (g : Geo) (N : Nat) (v1 : Int) (v2 : Int) (σ : Sto) (res : Int) (h1 : inR v1) (h2 : inR v2) (ok : OK σ) (hF : F_X12_packed N v1 v2 σ = some res) : MtI l g yX12_packed cX12_packed 5 (some .int) rm_X12_packed [vr g 94, vi v1, vi v2] σ res σ inR := by
  intro sz
  refine Met.ofAt (own := RX12) (QQ := fun z => QI g z res σ inR) (by decide +kernel) (Nat.le_of_ble_eq_true rfl) rfl ?_
  intro p e s m args below meth c C hr hlk
  show At p l e rm_X12_packed s m args below meth c 0 0 g 5 (MQ below (QI g s.heap.size res σ inR) args s 0 0 (AA g s.heap.size)) 0 [(0, vr g 94), (1, vi v1), (2, vi v2)] [] σ
  unfold F_X12_packed at hF
  refine at_iconst (pc := 0) C dX12_packed_0 ?_
  refine at_istore_n (pc := 1) (lv' := [(3, vi 0), (0, vr g 94), (1, vi v1), (2, vi v2)]) C dX12_packed_1 rfl (Nat.le_of_ble_eq_true rfl) rfl ?_
  refine at_iload_n (pc := 2) C 2 dX12_packed_2 rfl rfl ?_
  refine at_istore (pc := 3) (lv' := [(4, vi v1), (3, vi 0), (0, vr g 94), (1, vi v1), (2, vi v2)]) C dX12_packed_3 (Nat.le_of_ble_eq_true rfl) rfl ?_
  have L5 : ∀ (v1 : Int) (v2 : Int) (v3 : Int) (v4 : Int), inR v1 → inR v2 → inR v3 → inR v4 → loopK (fun q nx5 => F_X12_packed_B5 N  nx5 v1 v2 q.1 q.2 σ) N (v3, v4) = some res → At p l e rm_X12_packed s m args below meth c 0 0 g 5 (MQ below (QI g s.heap.size res σ inR) args s 0 0 (AA g s.heap.size)) 5 [(0, vr g 94), (1, vi v1), (2, vi v2), (3, vi v3), (4, vi v4)] [] σ := by
    intro v1 v2 v3 v4 h1 h2 h3 h4 hF
    refine loopK_ind (res := res) (P := fun (q : Int × Int) => inR q.1 → inR q.2 → At p l e rm_X12_packed s m args below meth c 0 0 g 5 (MQ below (QI g s.heap.size res σ inR) args s 0 0 (AA g s.heap.size)) 5 [(0, vr g 94), (1, vi v1), (2, vi v2), (3, vi q.1), (4, vi q.2)] [] σ) ?_ N _ hF h3 h4
    intro nx5 q ih5 hF
    obtain ⟨v3, v4⟩ := q
    intro h3 h4
    have hF : F_X12_packed_B5 N  nx5 v1 v2 v3 v4 σ = some res := hF
    unfold F_X12_packed_B5 at hF
    refine at_iload (pc := 5) C 4 dX12_packed_5 rfl ?_
    refine at_iload_n (pc := 7) C 1 dX12_packed_7 rfl rfl ?_
    refine at_bipush (pc := 8) C dX12_packed_8 (by decide) ?_
    refine at_iadd (pc := 10) C dX12_packed_10 ?_
    refine at_icmp_ge (pc := 11) (tgt := 45) C h4 (ja_R v1 6) dX12_packed_11 rfl (fun c1 => ?_) (fun c1 => ?_)
    · have hF := (if_pos c1).symm.trans hF
      refine at_iload_n (pc := 45) C 3 dX12_packed_45 rfl rfl ?_
      obtain rfl := Option.some.inj hF
      exact at_iret (pc := 46) C hr hlk h3 ok dX12_packed_46
    · have hF := (if_neg c1).symm.trans hF
      have J37 : ∀ (v4 : Int) (t0 : Int) (t1 : Int), inR v4 → inR t0 → inR t1 → F_X12_packed_J37 N nx5 v1 v2 v4 t0 t1 σ = some res → At p l e rm_X12_packed s m args below meth c 0 0 g 5 (MQ below (QI g s.heap.size res σ inR) args s 0 0 (AA g s.heap.size)) 37 [(0, vr g 94), (1, vi v1), (2, vi v2), (4, vi v4)] [vi t1, vi t0] σ := by
        intro v4 t0 t1 h4 ht0 ht1 hF
        unfold F_X12_packed_J37 at hF
        refine at_ior (pc := 37) C dX12_packed_37 ?_
        refine at_istore_n (pc := 38) (lv' := [(3, vi (jor t0 t1)), (0, vr g 94), (1, vi v1), (2, vi v2), (4, vi v4)]) C dX12_packed_38 rfl (Nat.le_of_ble_eq_true rfl) rfl ?_
        refine at_iinc (pc := 39) (lv' := [(4, vi (ja v4 1)), (3, vi (jor t0 t1)), (0, vr g 94), (1, vi v1), (2, vi v2)]) C 4 dX12_packed_39 rfl (Nat.le_of_ble_eq_true rfl) rfl ?_
        refine at_goto (pc := 42) (tgt := 5) C dX12_packed_42 rfl ?_
        refine at_sub (lv' := [(0, vr g 94), (1, vi v1), (2, vi v2), (3, vi (jor t0 t1)), (4, vi (ja v4 1))]) [2, 3, 4, 1, 0] rfl ?_
        exact ih5 _ hF (jor_R t0 t1) (ja_R v4 1)
      refine at_iload_n (pc := 14) C 3 dX12_packed_14 rfl rfl ?_
      refine at_iconst (pc := 15) C dX12_packed_15 ?_
      refine at_ishl (pc := 16) C dX12_packed_16 ?_
      refine at_iload (pc := 17) C 4 dX12_packed_17 rfl ?_
      refine at_iload_n (pc := 19) C 2 dX12_packed_19 rfl rfl ?_
      refine at_icmp_ge (pc := 20) (tgt := 36) C h4 h2 dX12_packed_20 rfl (fun c2 => ?_) (fun c2 => ?_)
      · have hF := (if_pos c2).symm.trans hF
        refine at_iconst (pc := 36) C dX12_packed_36 ?_
        refine at_sub (lv' := [(0, vr g 94), (1, vi v1), (2, vi v2), (4, vi v4)]) [0, 1, 2, 4] rfl ?_
        exact J37 v4 (jshl v3 5) 0 h4 (jshl_R v3 5) (isB.r (Or.inl rfl)) hF
      · have hF := (if_neg c2).symm.trans hF
        refine at_aload_n (pc := 23) C 0 dX12_packed_23 rfl rfl ?_
        refine at_getr (pc := 24) (k' := 95) C 1 fw_12_7 kd94 rfl (Nat.le_of_ble_eq_true rfl) rfl rfl dX12_packed_24 ?_
        refine at_iload (pc := 27) C 4 dX12_packed_27 rfl ?_
        obtain ⟨b3, hF⟩ := inb_some hF
        refine at_iaload (pc := 29) C kd95 b3 dX12_packed_29 ?_
        refine at_bipush (pc := 30) C dX12_packed_30 (by decide) ?_
        refine at_isub (pc := 32) C dX12_packed_32 ?_
        refine at_goto (pc := 33) (tgt := 37) C dX12_packed_33 rfl ?_
        refine at_sub (lv' := [(0, vr g 94), (1, vi v1), (2, vi v2), (4, vi v4)]) [0, 1, 2, 4] rfl ?_
        exact J37 v4 (jshl v3 5) (js (σ.1 95 v4) 96) h4 (jshl_R v3 5) (js_R (σ.1 95 v4) 96) hF
  refine at_sub (lv' := [(0, vr g 94), (1, vi v1), (2, vi v2), (3, vi 0), (4, vi v1)]) [2, 3, 4, 1, 0] rfl ?_
  exact L5 v1 v2 0 v1 h1 h2 (isB.r (Or.inl rfl)) h1 hF
abbrev rm_X12_token : Room := { frames := 1, cells := 0, slots := 0, locals := 27 }
def F_X12_token_J352 (N : Nat)   (σ : Sto) : Option (Sto) :=
  if (σ.1 94 8) = 6 then (some (upI σ 94 9 (jneg (σ.1 94 9)))) else (some σ)
def F_X12_token_J336 (N : Nat) (nx288 : (Sto) → Option (Sto)) (t1 : Int) (σ : Sto) : Option (Sto) :=
  nx288 (upI (upI σ 94 9 t1) 94 7 (ja ((upI σ 94 9 t1).1 94 7) 1))
def F_X12_token_B288 (N : Nat) (nx288 : (Sto) → Option (Sto))   (σ : Sto) : Option (Sto) :=
  (F_X12_isDigit N (σ.1 94 7) σ).bind (fun q5 => if q5 = 0 then (F_X12_token_J352 N   σ) else (if (σ.1 94 9) ≤ 99999 then (inb (σ.1 94 7) 700 (F_X12_token_J336 N nx288 (js (ja (jm 10 (σ.1 94 9)) (σ.1 95 (σ.1 94 7))) 48) σ)) else (F_X12_token_J336 N nx288 (σ.1 94 9) σ)))
def F_X12_token_J283 (N : Nat)   (σ : Sto) : Option (Sto) :=
  loopK (fun q nx288 => F_X12_token_B288 N  nx288   q) N (upI σ 94 9 0)
def F_X12_token_J261 (N : Nat)  (t1 : Int) (σ : Sto) : Option (Sto) :=
  if ((upI σ 94 8 t1).1 94 8) = 6 then (F_X12_token_J283 N   (upI (upI σ 94 8 t1) 94 7 (ja ((upI σ 94 8 t1).1 94 7) 1))) else (F_X12_token_J283 N   (upI σ 94 8 t1))
def F_X12_token_J240 (N : Nat)   (σ : Sto) : Option (Sto) :=
  inb (σ.1 94 7) 700 (if (σ.1 95 (σ.1 94 7)) = 45 then (F_X12_token_J261 N  6 σ) else (F_X12_token_J261 N  3 σ))
def F_X12_token_J393 (N : Nat)  (t1 : Int) (σ : Sto) : Option (Sto) :=
  some (upI (upI σ 94 8 t1) 94 7 (ja ((upI σ 94 8 t1).1 94 7) 1))
def F_X12_token_J373 (N : Nat)   (σ : Sto) : Option (Sto) :=
  inb (σ.1 94 7) 700 (if (σ.1 95 (σ.1 94 7)) = 59 then (F_X12_token_J393 N  4 σ) else (F_X12_token_J393 N  5 σ))
def F_X12_token_J161 (N : Nat)  (t1 : Int) (σ : Sto) : Option (Sto) :=
  if ((upI σ 94 8 t1).1 94 8) = 2 then ((F_X12_packed N ((upI σ 94 8 t1).1 94 10) ((upI σ 94 8 t1).1 94 7) (upI σ 94 8 t1)).bind (fun q22 => some (upI (upI σ 94 8 t1) 94 9 q22))) else (some (upI σ 94 8 t1))
def F_X12_token_J114 (N : Nat)   (σ : Sto) : Option (Sto) :=
  (F_X12_wordAt N (σ.1 94 10) (σ.1 94 7) σ).bind (fun q23 => if ((upI σ 94 9 q23).1 94 9) < 0 then (if (js ((upI σ 94 9 q23).1 94 7) ((upI σ 94 9 q23).1 94 10)) ≤ 6 then (F_X12_token_J161 N  2 (upI σ 94 9 q23)) else (F_X12_token_J161 N  5 (upI σ 94 9 q23))) else (F_X12_token_J161 N  1 (upI σ 94 9 q23)))
def F_X12_token_B90 (N : Nat) (nx90 : (Sto) → Option (Sto))   (σ : Sto) : Option (Sto) :=
  (F_X12_isSmall N (σ.1 94 7) σ).bind (fun q26 => if q26 = 0 then (F_X12_token_J114 N   σ) else (nx90 (upI σ 94 7 (ja (σ.1 94 7) 1))))
def F_X12_token_J52 (N : Nat)   (σ : Sto) : Option (Sto) :=
  if ((upI σ 94 10 (σ.1 94 7)).1 94 7) = ((upI σ 94 10 (σ.1 94 7)).1 94 6) then (some (upI (upI σ 94 10 (σ.1 94 7)) 94 8 0)) else ((F_X12_isSmall N ((upI σ 94 10 (σ.1 94 7)).1 94 7) (upI σ 94 10 (σ.1 94 7))).bind (fun q2 => if q2 = 0 then ((F_X12_isDigit N ((upI σ 94 10 (σ.1 94 7)).1 94 7) (upI σ 94 10 (σ.1 94 7))).bind (fun q12 => if q12 = 0 then (if ((upI σ 94 10 (σ.1 94 7)).1 94 6) ≤ ((upI σ 94 10 (σ.1 94 7)).1 94 7) then (F_X12_token_J373 N   (upI σ 94 10 (σ.1 94 7))) else (inb ((upI σ 94 10 (σ.1 94 7)).1 94 7) 700 (if ((upI σ 94 10 (σ.1 94 7)).1 95 ((upI σ 94 10 (σ.1 94 7)).1 94 7)) = 45 then ((F_X12_isDigit N (ja ((upI σ 94 10 (σ.1 94 7)).1 94 7) 1) (upI σ 94 10 (σ.1 94 7))).bind (fun q19 => if q19 = 0 then (F_X12_token_J373 N   (upI σ 94 10 (σ.1 94 7))) else (F_X12_token_J240 N   (upI σ 94 10 (σ.1 94 7))))) else (F_X12_token_J373 N   (upI σ 94 10 (σ.1 94 7)))))) else (F_X12_token_J240 N   (upI σ 94 10 (σ.1 94 7))))) else (loopK (fun q nx90 => F_X12_token_B90 N  nx90   q) N (upI σ 94 10 (σ.1 94 7)))))
def F_X12_token_J39 (N : Nat) (nx0 : (Sto) → Option (Sto))  (σ : Sto) : Option (Sto) :=
  nx0 (upI σ 94 7 (ja (σ.1 94 7) 1))
def F_X12_token_B0 (N : Nat) (nx0 : (Sto) → Option (Sto))   (σ : Sto) : Option (Sto) :=
  if (σ.1 94 6) ≤ (σ.1 94 7) then (F_X12_token_J52 N   σ) else (inb (σ.1 94 7) 700 (if (σ.1 95 (σ.1 94 7)) = 10 then (F_X12_token_J39 N nx0  σ) else (if (σ.1 95 (σ.1 94 7)) = 32 then (F_X12_token_J39 N nx0  σ) else (F_X12_token_J52 N   σ))))
def F_X12_token (N : Nat)  (σ : Sto) : Option (Sto) :=
  loopK (fun q nx0 => F_X12_token_B0 N  nx0   q) N σ
set_option maxHeartbeats 4000000 in
set_option maxRecDepth 100000 in
theorem c_X12_token (l : Launch) (g : Geo) (N : Nat)  (σ : Sto) (res : Sto)  (ok : OK σ) (hF : F_X12_token N  σ = some res) : MtV l g yX12_token cX12_token 1 none rm_X12_token [vr g 94] σ res := by
  intro sz
  refine Met.ofAt (own := RX12) (QQ := fun z => QV g z res) (by decide +kernel) (Nat.le_of_ble_eq_true rfl) rfl ?_
  intro p e s m args below meth c C hr hlk
  show At p l e rm_X12_token s m args below meth c 0 0 g 1 (MQ below (QV g s.heap.size res) args s 0 0 (AA g s.heap.size)) 0 [(0, vr g 94)] [] σ
  unfold F_X12_token at hF
  have L0 : ∀  (σ : Sto), OK σ → loopK (fun q nx0 => F_X12_token_B0 N  nx0   q) N σ = some res → At p l e rm_X12_token s m args below meth c 0 0 g 1 (MQ below (QV g s.heap.size res) args s 0 0 (AA g s.heap.size)) 0 [(0, vr g 94)] [] σ := by
    intro σ ok hF
    refine loopK_ind (res := res) (P := fun (q : Sto) => OK q → At p l e rm_X12_token s m args below meth c 0 0 g 1 (MQ below (QV g s.heap.size res) args s 0 0 (AA g s.heap.size)) 0 [(0, vr g 94)] [] q) ?_ N _ hF ok
    intro nx0 σ ih0 hF ok
    have hF : F_X12_token_B0 N  nx0   σ = some res := hF
    unfold F_X12_token_B0 at hF
    have J52 : ∀  (σ : Sto), OK σ → F_X12_token_J52 N   σ = some res → At p l e rm_X12_token s m args below meth c 0 0 g 1 (MQ below (QV g s.heap.size res) args s 0 0 (AA g s.heap.size)) 52 [(0, vr g 94)] [] σ := by
      intro σ ok hF
      unfold F_X12_token_J52 at hF
      refine at_aload_n (pc := 52) C 0 dX12_token_52 rfl rfl ?_
      refine at_aload_n (pc := 53) C 0 dX12_token_53 rfl rfl ?_
      refine at_geti (pc := 54) (jz := 7) C fw_12_96 kd94 rfl (Nat.le_of_ble_eq_true rfl) rfl rfl dX12_token_54 ?_
      refine at_puti (pc := 57) (jz := 10) C fu_12_90 kd94 rfl (Nat.le_of_ble_eq_true rfl) rfl rfl dX12_token_57 ?_
      refine at_aload_n (pc := 60) C 0 dX12_token_60 rfl rfl ?_
      refine at_geti (pc := 61) (jz := 7) C fw_12_96 kd94 rfl (Nat.le_of_ble_eq_true rfl) rfl rfl dX12_token_61 ?_
      refine at_aload_n (pc := 64) C 0 dX12_token_64 rfl rfl ?_
      refine at_geti (pc := 65) (jz := 6) C fw_12_93 kd94 rfl (Nat.le_of_ble_eq_true rfl) rfl rfl dX12_token_65 ?_
      refine at_icmp_ne (pc := 68) (tgt := 79) C ((OK_up (k := 94) (j := 10) ok (ok 94 7)) 94 7) ((OK_up (k := 94) (j := 10) ok (ok 94 7)) 94 6) dX12_token_68 rfl (fun c1 => ?_) (fun c1 => ?_)
      · have hF := (if_neg c1).symm.trans hF
        refine at_aload_n (pc := 79) C 0 dX12_token_79 rfl rfl ?_
        refine at_aload_n (pc := 80) C 0 dX12_token_80 rfl rfl ?_
        refine at_geti (pc := 81) (jz := 7) C fw_12_96 kd94 rfl (Nat.le_of_ble_eq_true rfl) rfl rfl dX12_token_81 ?_
        obtain ⟨q2, eq2, hF⟩ := bind_some' hF
        refine at_callV (pc := 84) (ci := 12) C (c_X12_isSmall l g N ((upI σ 94 10 (σ.1 94 7)).1 94 7) (upI σ 94 10 (σ.1 94 7)) q2 ((OK_up (k := 94) (j := 10) ok (ok 94 7)) 94 7) (OK_up (k := 94) (j := 10) ok (ok 94 7)) eq2) kv_X12_isSmall w1484 kd94 rfl rfl rfl rfl (Nat.le_of_ble_eq_true rfl) ⟨rfl, rfl, (Nat.le_of_ble_eq_true rfl), (Nat.le_of_ble_eq_true rfl)⟩ dX12_token_84 (fun tq2 okq2 => ?_)
        refine at_if_eq (pc := 87) (tgt := 191) C (isB.r tq2) dX12_token_87 rfl (fun c3 => ?_) (fun c3 => ?_)
        · have hF := (if_pos c3).symm.trans hF
          have J240 : ∀  (σ : Sto), OK σ → F_X12_token_J240 N   σ = some res → At p l e rm_X12_token s m args below meth c 0 0 g 1 (MQ below (QV g s.heap.size res) args s 0 0 (AA g s.heap.size)) 240 [(0, vr g 94)] [] σ := by
            intro σ ok hF
            unfold F_X12_token_J240 at hF
            have J261 : ∀ (t1 : Int) (σ : Sto), inR t1 → OK σ → F_X12_token_J261 N  t1 σ = some res → At p l e rm_X12_token s m args below meth c 0 0 g 1 (MQ below (QV g s.heap.size res) args s 0 0 (AA g s.heap.size)) 261 [(0, vr g 94)] [vi t1, vr g 94] σ := by
              intro t1 σ ht1 ok hF
              unfold F_X12_token_J261 at hF
              have J283 : ∀  (σ : Sto), OK σ → F_X12_token_J283 N   σ = some res → At p l e rm_X12_token s m args below meth c 0 0 g 1 (MQ below (QV g s.heap.size res) args s 0 0 (AA g s.heap.size)) 283 [(0, vr g 94)] [] σ := by
                intro σ ok hF
                unfold F_X12_token_J283 at hF
                refine at_aload_n (pc := 283) C 0 dX12_token_283 rfl rfl ?_
                refine at_iconst (pc := 284) C dX12_token_284 ?_
                refine at_puti (pc := 285) (jz := 9) C fu_12_110 kd94 rfl (Nat.le_of_ble_eq_true rfl) rfl rfl dX12_token_285 ?_
                have L288 : ∀  (σ : Sto), OK σ → loopK (fun q nx288 => F_X12_token_B288 N  nx288   q) N σ = some res → At p l e rm_X12_token s m args below meth c 0 0 g 1 (MQ below (QV g s.heap.size res) args s 0 0 (AA g s.heap.size)) 288 [(0, vr g 94)] [] σ := by
                  intro σ ok hF
                  refine loopK_ind (res := res) (P := fun (q : Sto) => OK q → At p l e rm_X12_token s m args below meth c 0 0 g 1 (MQ below (QV g s.heap.size res) args s 0 0 (AA g s.heap.size)) 288 [(0, vr g 94)] [] q) ?_ N _ hF ok
                  intro nx288 σ ih288 hF ok
                  have hF : F_X12_token_B288 N  nx288   σ = some res := hF
                  unfold F_X12_token_B288 at hF
                  have J352 : ∀  (σ : Sto), OK σ → F_X12_token_J352 N   σ = some res → At p l e rm_X12_token s m args below meth c 0 0 g 1 (MQ below (QV g s.heap.size res) args s 0 0 (AA g s.heap.size)) 352 [(0, vr g 94)] [] σ := by
                    intro σ ok hF
                    unfold F_X12_token_J352 at hF
                    refine at_aload_n (pc := 352) C 0 dX12_token_352 rfl rfl ?_
                    refine at_geti (pc := 353) (jz := 8) C fw_12_99 kd94 rfl (Nat.le_of_ble_eq_true rfl) rfl rfl dX12_token_353 ?_
                    refine at_bipush (pc := 356) C dX12_token_356 (by decide) ?_
                    refine at_icmp_ne (pc := 358) (tgt := 406) C (ok 94 8) (show inR 6 from ⟨by decide, by decide⟩) dX12_token_358 rfl (fun c4 => ?_) (fun c4 => ?_)
                    · have hF := (if_neg c4).symm.trans hF
                      obtain rfl := Option.some.inj hF
                      exact at_vret (pc := 406) C hr hlk ok dX12_token_406
                    · have hF := (if_pos c4).symm.trans hF
                      refine at_aload_n (pc := 361) C 0 dX12_token_361 rfl rfl ?_
                      refine at_aload_n (pc := 362) C 0 dX12_token_362 rfl rfl ?_
                      refine at_geti (pc := 363) (jz := 9) C fw_12_110 kd94 rfl (Nat.le_of_ble_eq_true rfl) rfl rfl dX12_token_363 ?_
                      refine at_ineg (pc := 366) C dX12_token_366 ?_
                      refine at_puti (pc := 367) (jz := 9) C fu_12_110 kd94 rfl (Nat.le_of_ble_eq_true rfl) rfl rfl dX12_token_367 ?_
                      refine at_goto (pc := 370) (tgt := 406) C dX12_token_370 rfl ?_
                      obtain rfl := Option.some.inj hF
                      exact at_vret (pc := 406) C hr hlk (OK_up (k := 94) (j := 9) ok (jneg_R (σ.1 94 9))) dX12_token_406
                  refine at_aload_n (pc := 288) C 0 dX12_token_288 rfl rfl ?_
                  refine at_aload_n (pc := 289) C 0 dX12_token_289 rfl rfl ?_
                  refine at_geti (pc := 290) (jz := 7) C fw_12_96 kd94 rfl (Nat.le_of_ble_eq_true rfl) rfl rfl dX12_token_290 ?_
                  obtain ⟨q5, eq5, hF⟩ := bind_some' hF
                  refine at_callV (pc := 293) (ci := 12) C (c_X12_isDigit l g N (σ.1 94 7) σ q5 (ok 94 7) ok eq5) kv_X12_isDigit w1496 kd94 rfl rfl rfl rfl (Nat.le_of_ble_eq_true rfl) ⟨rfl, rfl, (Nat.le_of_ble_eq_true rfl), (Nat.le_of_ble_eq_true rfl)⟩ dX12_token_293 (fun tq5 okq5 => ?_)
                  refine at_if_eq (pc := 296) (tgt := 352) C (isB.r tq5) dX12_token_296 rfl (fun c6 => ?_) (fun c6 => ?_)
                  · have hF := (if_pos c6).symm.trans hF
                    exact J352 σ ok hF
                  · have hF := (if_neg c6).symm.trans hF
                    have J336 : ∀ (t1 : Int) (σ : Sto), inR t1 → OK σ → F_X12_token_J336 N nx288 t1 σ = some res → At p l e rm_X12_token s m args below meth c 0 0 g 1 (MQ below (QV g s.heap.size res) args s 0 0 (AA g s.heap.size)) 336 [(0, vr g 94)] [vi t1, vr g 94] σ := by
                      intro t1 σ ht1 ok hF
                      unfold F_X12_token_J336 at hF
                      refine at_puti (pc := 336) (jz := 9) C fu_12_110 kd94 rfl (Nat.le_of_ble_eq_true rfl) rfl rfl dX12_token_336 ?_
                      refine at_aload_n (pc := 339) C 0 dX12_token_339 rfl rfl ?_
                      refine at_dup (pc := 340) C dX12_token_340 rfl ?_
                      refine at_geti (pc := 341) (jz := 7) C fw_12_96 kd94 rfl (Nat.le_of_ble_eq_true rfl) rfl rfl dX12_token_341 ?_
                      refine at_iconst (pc := 344) C dX12_token_344 ?_
                      refine at_iadd (pc := 345) C dX12_token_345 ?_
                      refine at_puti (pc := 346) (jz := 7) C fu_12_96 kd94 rfl (Nat.le_of_ble_eq_true rfl) rfl rfl dX12_token_346 ?_
                      refine at_goto (pc := 349) (tgt := 288) C dX12_token_349 rfl ?_
                      exact ih288 _ hF (OK_up (k := 94) (j := 7) (OK_up (k := 94) (j := 9) ok ht1) (ja_R ((upI σ 94 9 t1).1 94 7) 1))
                    refine at_aload_n (pc := 299) C 0 dX12_token_299 rfl rfl ?_
                    refine at_aload_n (pc := 300) C 0 dX12_token_300 rfl rfl ?_
                    refine at_geti (pc := 301) (jz := 9) C fw_12_110 kd94 rfl (Nat.le_of_ble_eq_true rfl) rfl rfl dX12_token_301 ?_
                    refine at_ldc (pc := 304) (n := 99999) C dX12_token_304 w1500 ?_
                    refine at_icmp_le (pc := 306) (tgt := 316) C (ok 94 9) (show inR 99999 from ⟨by decide, by decide⟩) dX12_token_306 rfl (fun c7 => ?_) (fun c7 => ?_)
                    · have hF := (if_pos c7).symm.trans hF
                      refine at_bipush (pc := 316) C dX12_token_316 (by decide) ?_
                      refine at_aload_n (pc := 318) C 0 dX12_token_318 rfl rfl ?_
                      refine at_geti (pc := 319) (jz := 9) C fw_12_110 kd94 rfl (Nat.le_of_ble_eq_true rfl) rfl rfl dX12_token_319 ?_
                      refine at_imul (pc := 322) C dX12_token_322 ?_
                      refine at_aload_n (pc := 323) C 0 dX12_token_323 rfl rfl ?_
                      refine at_getr (pc := 324) (k' := 95) C 1 fw_12_7 kd94 rfl (Nat.le_of_ble_eq_true rfl) rfl rfl dX12_token_324 ?_
                      refine at_aload_n (pc := 327) C 0 dX12_token_327 rfl rfl ?_
                      refine at_geti (pc := 328) (jz := 7) C fw_12_96 kd94 rfl (Nat.le_of_ble_eq_true rfl) rfl rfl dX12_token_328 ?_
                      obtain ⟨b8, hF⟩ := inb_some hF
                      refine at_iaload (pc := 331) C kd95 b8 dX12_token_331 ?_
                      refine at_iadd (pc := 332) C dX12_token_332 ?_
                      refine at_bipush (pc := 333) C dX12_token_333 (by decide) ?_
                      refine at_isub (pc := 335) C dX12_token_335 ?_
                      exact J336 (js (ja (jm 10 (σ.1 94 9)) (σ.1 95 (σ.1 94 7))) 48) σ (js_R (ja (jm 10 (σ.1 94 9)) (σ.1 95 (σ.1 94 7))) 48) ok hF
                    · have hF := (if_neg c7).symm.trans hF
                      refine at_aload_n (pc := 309) C 0 dX12_token_309 rfl rfl ?_
                      refine at_geti (pc := 310) (jz := 9) C fw_12_110 kd94 rfl (Nat.le_of_ble_eq_true rfl) rfl rfl dX12_token_310 ?_
                      refine at_goto (pc := 313) (tgt := 336) C dX12_token_313 rfl ?_
                      exact J336 (σ.1 94 9) σ (ok 94 9) ok hF
                exact L288 (upI σ 94 9 0) (OK_up (k := 94) (j := 9) ok (isB.r (Or.inl rfl))) hF
              refine at_puti (pc := 261) (jz := 8) C fu_12_99 kd94 rfl (Nat.le_of_ble_eq_true rfl) rfl rfl dX12_token_261 ?_
              refine at_aload_n (pc := 264) C 0 dX12_token_264 rfl rfl ?_
              refine at_geti (pc := 265) (jz := 8) C fw_12_99 kd94 rfl (Nat.le_of_ble_eq_true rfl) rfl rfl dX12_token_265 ?_
              refine at_bipush (pc := 268) C dX12_token_268 (by decide) ?_
              refine at_icmp_ne (pc := 270) (tgt := 283) C ((OK_up (k := 94) (j := 8) ok ht1) 94 8) (show inR 6 from ⟨by decide, by decide⟩) dX12_token_270 rfl (fun c9 => ?_) (fun c9 => ?_)
              · have hF := (if_neg c9).symm.trans hF
                exact J283 (upI σ 94 8 t1) (OK_up (k := 94) (j := 8) ok ht1) hF
              · have hF := (if_pos c9).symm.trans hF
                refine at_aload_n (pc := 273) C 0 dX12_token_273 rfl rfl ?_
                refine at_dup (pc := 274) C dX12_token_274 rfl ?_
                refine at_geti (pc := 275) (jz := 7) C fw_12_96 kd94 rfl (Nat.le_of_ble_eq_true rfl) rfl rfl dX12_token_275 ?_
                refine at_iconst (pc := 278) C dX12_token_278 ?_
                refine at_iadd (pc := 279) C dX12_token_279 ?_
                refine at_puti (pc := 280) (jz := 7) C fu_12_96 kd94 rfl (Nat.le_of_ble_eq_true rfl) rfl rfl dX12_token_280 ?_
                exact J283 (upI (upI σ 94 8 t1) 94 7 (ja ((upI σ 94 8 t1).1 94 7) 1)) (OK_up (k := 94) (j := 7) (OK_up (k := 94) (j := 8) ok ht1) (ja_R ((upI σ 94 8 t1).1 94 7) 1)) hF
            refine at_aload_n (pc := 240) C 0 dX12_token_240 rfl rfl ?_
            refine at_aload_n (pc := 241) C 0 dX12_token_241 rfl rfl ?_
            refine at_getr (pc := 242) (k' := 95) C 1 fw_12_7 kd94 rfl (Nat.le_of_ble_eq_true rfl) rfl rfl dX12_token_242 ?_
            refine at_aload_n (pc := 245) C 0 dX12_token_245 rfl rfl ?_
            refine at_geti (pc := 246) (jz := 7) C fw_12_96 kd94 rfl (Nat.le_of_ble_eq_true rfl) rfl rfl dX12_token_246 ?_
            obtain ⟨b10, hF⟩ := inb_some hF
            refine at_iaload (pc := 249) C kd95 b10 dX12_token_249 ?_
            refine at_bipush (pc := 250) C dX12_token_250 (by decide) ?_
            refine at_icmp_ne (pc := 252) (tgt := 260) C (ok 95 (σ.1 94 7)) (show inR 45 from ⟨by decide, by decide⟩) dX12_token_252 rfl (fun c11 => ?_) (fun c11 => ?_)
            · have hF := (if_neg c11).symm.trans hF
              refine at_iconst (pc := 260) C dX12_token_260 ?_
              exact J261 3 σ (show inR 3 from ⟨by decide, by decide⟩) ok hF
            · have hF := (if_pos c11).symm.trans hF
              refine at_bipush (pc := 255) C dX12_token_255 (by decide) ?_
              refine at_goto (pc := 257) (tgt := 261) C dX12_token_257 rfl ?_
              exact J261 6 σ (show inR 6 from ⟨by decide, by decide⟩) ok hF
          refine at_aload_n (pc := 191) C 0 dX12_token_191 rfl rfl ?_
          refine at_aload_n (pc := 192) C 0 dX12_token_192 rfl rfl ?_
          refine at_geti (pc := 193) (jz := 7) C fw_12_96 kd94 rfl (Nat.le_of_ble_eq_true rfl) rfl rfl dX12_token_193 ?_
          obtain ⟨q12, eq12, hF⟩ := bind_some' hF
          refine at_callV (pc := 196) (ci := 12) C (c_X12_isDigit l g N ((upI σ 94 10 (σ.1 94 7)).1 94 7) (upI σ 94 10 (σ.1 94 7)) q12 ((OK_up (k := 94) (j := 10) ok (ok 94 7)) 94 7) (OK_up (k := 94) (j := 10) ok (ok 94 7)) eq12) kv_X12_isDigit w1496 kd94 rfl rfl rfl rfl (Nat.le_of_ble_eq_true rfl) ⟨rfl, rfl, (Nat.le_of_ble_eq_true rfl), (Nat.le_of_ble_eq_true rfl)⟩ dX12_token_196 (fun tq12 okq12 => ?_)
          refine at_if_ne (pc := 199) (tgt := 240) C (isB.r tq12) dX12_token_199 rfl (fun c13 => ?_) (fun c13 => ?_)
          · have hF := (if_neg c13).symm.trans hF
            exact J240 (upI σ 94 10 (σ.1 94 7)) (OK_up (k := 94) (j := 10) ok (ok 94 7)) hF
          · have hF := (if_pos c13).symm.trans hF
            have J373 : ∀  (σ : Sto), OK σ → F_X12_token_J373 N   σ = some res → At p l e rm_X12_token s m args below meth c 0 0 g 1 (MQ below (QV g s.heap.size res) args s 0 0 (AA g s.heap.size)) 373 [(0, vr g 94)] [] σ := by
              intro σ ok hF
              unfold F_X12_token_J373 at hF
              have J393 : ∀ (t1 : Int) (σ : Sto), inR t1 → OK σ → F_X12_token_J393 N  t1 σ = some res → At p l e rm_X12_token s m args below meth c 0 0 g 1 (MQ below (QV g s.heap.size res) args s 0 0 (AA g s.heap.size)) 393 [(0, vr g 94)] [vi t1, vr g 94] σ := by
                intro t1 σ ht1 ok hF
                unfold F_X12_token_J393 at hF
                refine at_puti (pc := 393) (jz := 8) C fu_12_99 kd94 rfl (Nat.le_of_ble_eq_true rfl) rfl rfl dX12_token_393 ?_
                refine at_aload_n (pc := 396) C 0 dX12_token_396 rfl rfl ?_
                refine at_dup (pc := 397) C dX12_token_397 rfl ?_
                refine at_geti (pc := 398) (jz := 7) C fw_12_96 kd94 rfl (Nat.le_of_ble_eq_true rfl) rfl rfl dX12_token_398 ?_
                refine at_iconst (pc := 401) C dX12_token_401 ?_
                refine at_iadd (pc := 402) C dX12_token_402 ?_
                refine at_puti (pc := 403) (jz := 7) C fu_12_96 kd94 rfl (Nat.le_of_ble_eq_true rfl) rfl rfl dX12_token_403 ?_
                obtain rfl := Option.some.inj hF
                exact at_vret (pc := 406) C hr hlk (OK_up (k := 94) (j := 7) (OK_up (k := 94) (j := 8) ok ht1) (ja_R ((upI σ 94 8 t1).1 94 7) 1)) dX12_token_406
              refine at_aload_n (pc := 373) C 0 dX12_token_373 rfl rfl ?_
              refine at_aload_n (pc := 374) C 0 dX12_token_374 rfl rfl ?_
              refine at_getr (pc := 375) (k' := 95) C 1 fw_12_7 kd94 rfl (Nat.le_of_ble_eq_true rfl) rfl rfl dX12_token_375 ?_
              refine at_aload_n (pc := 378) C 0 dX12_token_378 rfl rfl ?_
              refine at_geti (pc := 379) (jz := 7) C fw_12_96 kd94 rfl (Nat.le_of_ble_eq_true rfl) rfl rfl dX12_token_379 ?_
              obtain ⟨b14, hF⟩ := inb_some hF
              refine at_iaload (pc := 382) C kd95 b14 dX12_token_382 ?_
              refine at_bipush (pc := 383) C dX12_token_383 (by decide) ?_
              refine at_icmp_ne (pc := 385) (tgt := 392) C (ok 95 (σ.1 94 7)) (show inR 59 from ⟨by decide, by decide⟩) dX12_token_385 rfl (fun c15 => ?_) (fun c15 => ?_)
              · have hF := (if_neg c15).symm.trans hF
                refine at_iconst (pc := 392) C dX12_token_392 ?_
                exact J393 5 σ (show inR 5 from ⟨by decide, by decide⟩) ok hF
              · have hF := (if_pos c15).symm.trans hF
                refine at_iconst (pc := 388) C dX12_token_388 ?_
                refine at_goto (pc := 389) (tgt := 393) C dX12_token_389 rfl ?_
                exact J393 4 σ (show inR 4 from ⟨by decide, by decide⟩) ok hF
            refine at_aload_n (pc := 202) C 0 dX12_token_202 rfl rfl ?_
            refine at_geti (pc := 203) (jz := 7) C fw_12_96 kd94 rfl (Nat.le_of_ble_eq_true rfl) rfl rfl dX12_token_203 ?_
            refine at_aload_n (pc := 206) C 0 dX12_token_206 rfl rfl ?_
            refine at_geti (pc := 207) (jz := 6) C fw_12_93 kd94 rfl (Nat.le_of_ble_eq_true rfl) rfl rfl dX12_token_207 ?_
            refine at_icmp_ge (pc := 210) (tgt := 373) C ((OK_up (k := 94) (j := 10) ok (ok 94 7)) 94 7) ((OK_up (k := 94) (j := 10) ok (ok 94 7)) 94 6) dX12_token_210 rfl (fun c16 => ?_) (fun c16 => ?_)
            · have hF := (if_pos c16).symm.trans hF
              exact J373 (upI σ 94 10 (σ.1 94 7)) (OK_up (k := 94) (j := 10) ok (ok 94 7)) hF
            · have hF := (if_neg c16).symm.trans hF
              refine at_aload_n (pc := 213) C 0 dX12_token_213 rfl rfl ?_
              refine at_getr (pc := 214) (k' := 95) C 1 fw_12_7 kd94 rfl (Nat.le_of_ble_eq_true rfl) rfl rfl dX12_token_214 ?_
              refine at_aload_n (pc := 217) C 0 dX12_token_217 rfl rfl ?_
              refine at_geti (pc := 218) (jz := 7) C fw_12_96 kd94 rfl (Nat.le_of_ble_eq_true rfl) rfl rfl dX12_token_218 ?_
              obtain ⟨b17, hF⟩ := inb_some hF
              refine at_iaload (pc := 221) C kd95 b17 dX12_token_221 ?_
              refine at_bipush (pc := 222) C dX12_token_222 (by decide) ?_
              refine at_icmp_ne (pc := 224) (tgt := 373) C ((OK_up (k := 94) (j := 10) ok (ok 94 7)) 95 ((upI σ 94 10 (σ.1 94 7)).1 94 7)) (show inR 45 from ⟨by decide, by decide⟩) dX12_token_224 rfl (fun c18 => ?_) (fun c18 => ?_)
              · have hF := (if_neg c18).symm.trans hF
                exact J373 (upI σ 94 10 (σ.1 94 7)) (OK_up (k := 94) (j := 10) ok (ok 94 7)) hF
              · have hF := (if_pos c18).symm.trans hF
                refine at_aload_n (pc := 227) C 0 dX12_token_227 rfl rfl ?_
                refine at_aload_n (pc := 228) C 0 dX12_token_228 rfl rfl ?_
                refine at_geti (pc := 229) (jz := 7) C fw_12_96 kd94 rfl (Nat.le_of_ble_eq_true rfl) rfl rfl dX12_token_229 ?_
                refine at_iconst (pc := 232) C dX12_token_232 ?_
                refine at_iadd (pc := 233) C dX12_token_233 ?_
                obtain ⟨q19, eq19, hF⟩ := bind_some' hF
                refine at_callV (pc := 234) (ci := 12) C (c_X12_isDigit l g N (ja ((upI σ 94 10 (σ.1 94 7)).1 94 7) 1) (upI σ 94 10 (σ.1 94 7)) q19 (ja_R ((upI σ 94 10 (σ.1 94 7)).1 94 7) 1) (OK_up (k := 94) (j := 10) ok (ok 94 7)) eq19) kv_X12_isDigit w1496 kd94 rfl rfl rfl rfl (Nat.le_of_ble_eq_true rfl) ⟨rfl, rfl, (Nat.le_of_ble_eq_true rfl), (Nat.le_of_ble_eq_true rfl)⟩ dX12_token_234 (fun tq19 okq19 => ?_)
                refine at_if_eq (pc := 237) (tgt := 373) C (isB.r tq19) dX12_token_237 rfl (fun c20 => ?_) (fun c20 => ?_)
                · have hF := (if_pos c20).symm.trans hF
                  exact J373 (upI σ 94 10 (σ.1 94 7)) (OK_up (k := 94) (j := 10) ok (ok 94 7)) hF
                · have hF := (if_neg c20).symm.trans hF
                  exact J240 (upI σ 94 10 (σ.1 94 7)) (OK_up (k := 94) (j := 10) ok (ok 94 7)) hF
        · have hF := (if_neg c3).symm.trans hF
          have L90 : ∀  (σ : Sto), OK σ → loopK (fun q nx90 => F_X12_token_B90 N  nx90   q) N σ = some res → At p l e rm_X12_token s m args below meth c 0 0 g 1 (MQ below (QV g s.heap.size res) args s 0 0 (AA g s.heap.size)) 90 [(0, vr g 94)] [] σ := by
            intro σ ok hF
            refine loopK_ind (res := res) (P := fun (q : Sto) => OK q → At p l e rm_X12_token s m args below meth c 0 0 g 1 (MQ below (QV g s.heap.size res) args s 0 0 (AA g s.heap.size)) 90 [(0, vr g 94)] [] q) ?_ N _ hF ok
            intro nx90 σ ih90 hF ok
            have hF : F_X12_token_B90 N  nx90   σ = some res := hF
            unfold F_X12_token_B90 at hF
            have J114 : ∀  (σ : Sto), OK σ → F_X12_token_J114 N   σ = some res → At p l e rm_X12_token s m args below meth c 0 0 g 1 (MQ below (QV g s.heap.size res) args s 0 0 (AA g s.heap.size)) 114 [(0, vr g 94)] [] σ := by
              intro σ ok hF
              unfold F_X12_token_J114 at hF
              have J161 : ∀ (t1 : Int) (σ : Sto), inR t1 → OK σ → F_X12_token_J161 N  t1 σ = some res → At p l e rm_X12_token s m args below meth c 0 0 g 1 (MQ below (QV g s.heap.size res) args s 0 0 (AA g s.heap.size)) 161 [(0, vr g 94)] [vi t1, vr g 94] σ := by
                intro t1 σ ht1 ok hF
                unfold F_X12_token_J161 at hF
                refine at_puti (pc := 161) (jz := 8) C fu_12_99 kd94 rfl (Nat.le_of_ble_eq_true rfl) rfl rfl dX12_token_161 ?_
                refine at_aload_n (pc := 164) C 0 dX12_token_164 rfl rfl ?_
                refine at_geti (pc := 165) (jz := 8) C fw_12_99 kd94 rfl (Nat.le_of_ble_eq_true rfl) rfl rfl dX12_token_165 ?_
                refine at_iconst (pc := 168) C dX12_token_168 ?_
                refine at_icmp_ne (pc := 169) (tgt := 406) C ((OK_up (k := 94) (j := 8) ok ht1) 94 8) (show inR 2 from ⟨by decide, by decide⟩) dX12_token_169 rfl (fun c21 => ?_) (fun c21 => ?_)
                · have hF := (if_neg c21).symm.trans hF
                  obtain rfl := Option.some.inj hF
                  exact at_vret (pc := 406) C hr hlk (OK_up (k := 94) (j := 8) ok ht1) dX12_token_406
                · have hF := (if_pos c21).symm.trans hF
                  refine at_aload_n (pc := 172) C 0 dX12_token_172 rfl rfl ?_
                  refine at_aload_n (pc := 173) C 0 dX12_token_173 rfl rfl ?_
                  refine at_aload_n (pc := 174) C 0 dX12_token_174 rfl rfl ?_
                  refine at_geti (pc := 175) (jz := 10) C fw_12_90 kd94 rfl (Nat.le_of_ble_eq_true rfl) rfl rfl dX12_token_175 ?_
                  refine at_aload_n (pc := 178) C 0 dX12_token_178 rfl rfl ?_
                  refine at_geti (pc := 179) (jz := 7) C fw_12_96 kd94 rfl (Nat.le_of_ble_eq_true rfl) rfl rfl dX12_token_179 ?_
                  obtain ⟨q22, eq22, hF⟩ := bind_some' hF
                  refine at_callV (pc := 182) (ci := 12) C (c_X12_packed l g N ((upI σ 94 8 t1).1 94 10) ((upI σ 94 8 t1).1 94 7) (upI σ 94 8 t1) q22 ((OK_up (k := 94) (j := 8) ok ht1) 94 10) ((OK_up (k := 94) (j := 8) ok ht1) 94 7) (OK_up (k := 94) (j := 8) ok ht1) eq22) kv_X12_packed w1492 kd94 rfl rfl rfl rfl (Nat.le_of_ble_eq_true rfl) ⟨rfl, rfl, (Nat.le_of_ble_eq_true rfl), (Nat.le_of_ble_eq_true rfl)⟩ dX12_token_182 (fun tq22 okq22 => ?_)
                  refine at_puti (pc := 185) (jz := 9) C fu_12_110 kd94 rfl (Nat.le_of_ble_eq_true rfl) rfl rfl dX12_token_185 ?_
                  refine at_goto (pc := 188) (tgt := 406) C dX12_token_188 rfl ?_
                  obtain rfl := Option.some.inj hF
                  exact at_vret (pc := 406) C hr hlk (OK_up (k := 94) (j := 9) (OK_up (k := 94) (j := 8) ok ht1) tq22) dX12_token_406
              refine at_aload_n (pc := 114) C 0 dX12_token_114 rfl rfl ?_
              refine at_aload_n (pc := 115) C 0 dX12_token_115 rfl rfl ?_
              refine at_aload_n (pc := 116) C 0 dX12_token_116 rfl rfl ?_
              refine at_geti (pc := 117) (jz := 10) C fw_12_90 kd94 rfl (Nat.le_of_ble_eq_true rfl) rfl rfl dX12_token_117 ?_
              refine at_aload_n (pc := 120) C 0 dX12_token_120 rfl rfl ?_
              refine at_geti (pc := 121) (jz := 7) C fw_12_96 kd94 rfl (Nat.le_of_ble_eq_true rfl) rfl rfl dX12_token_121 ?_
              obtain ⟨q23, eq23, hF⟩ := bind_some' hF
              refine at_callV (pc := 124) (ci := 12) C (c_X12_wordAt l g N (σ.1 94 10) (σ.1 94 7) σ q23 (ok 94 10) (ok 94 7) ok eq23) kv_X12_wordAt w1488 kd94 rfl rfl rfl rfl (Nat.le_of_ble_eq_true rfl) ⟨rfl, rfl, (Nat.le_of_ble_eq_true rfl), (Nat.le_of_ble_eq_true rfl)⟩ dX12_token_124 (fun tq23 okq23 => ?_)
              refine at_puti (pc := 127) (jz := 9) C fu_12_110 kd94 rfl (Nat.le_of_ble_eq_true rfl) rfl rfl dX12_token_127 ?_
              refine at_aload_n (pc := 130) C 0 dX12_token_130 rfl rfl ?_
              refine at_aload_n (pc := 131) C 0 dX12_token_131 rfl rfl ?_
              refine at_geti (pc := 132) (jz := 9) C fw_12_110 kd94 rfl (Nat.le_of_ble_eq_true rfl) rfl rfl dX12_token_132 ?_
              refine at_if_lt (pc := 135) (tgt := 142) C ((OK_up (k := 94) (j := 9) ok tq23) 94 9) dX12_token_135 rfl (fun c24 => ?_) (fun c24 => ?_)
              · have hF := (if_pos c24).symm.trans hF
                refine at_aload_n (pc := 142) C 0 dX12_token_142 rfl rfl ?_
                refine at_geti (pc := 143) (jz := 7) C fw_12_96 kd94 rfl (Nat.le_of_ble_eq_true rfl) rfl rfl dX12_token_143 ?_
                refine at_aload_n (pc := 146) C 0 dX12_token_146 rfl rfl ?_
                refine at_geti (pc := 147) (jz := 10) C fw_12_90 kd94 rfl (Nat.le_of_ble_eq_true rfl) rfl rfl dX12_token_147 ?_
                refine at_isub (pc := 150) C dX12_token_150 ?_
                refine at_bipush (pc := 151) C dX12_token_151 (by decide) ?_
                refine at_icmp_le (pc := 153) (tgt := 160) C (js_R ((upI σ 94 9 q23).1 94 7) ((upI σ 94 9 q23).1 94 10)) (show inR 6 from ⟨by decide, by decide⟩) dX12_token_153 rfl (fun c25 => ?_) (fun c25 => ?_)
                · have hF := (if_pos c25).symm.trans hF
                  refine at_iconst (pc := 160) C dX12_token_160 ?_
                  exact J161 2 (upI σ 94 9 q23) (show inR 2 from ⟨by decide, by decide⟩) (OK_up (k := 94) (j := 9) ok tq23) hF
                · have hF := (if_neg c25).symm.trans hF
                  refine at_iconst (pc := 156) C dX12_token_156 ?_
                  refine at_goto (pc := 157) (tgt := 161) C dX12_token_157 rfl ?_
                  exact J161 5 (upI σ 94 9 q23) (show inR 5 from ⟨by decide, by decide⟩) (OK_up (k := 94) (j := 9) ok tq23) hF
              · have hF := (if_neg c24).symm.trans hF
                refine at_iconst (pc := 138) C dX12_token_138 ?_
                refine at_goto (pc := 139) (tgt := 161) C dX12_token_139 rfl ?_
                exact J161 1 (upI σ 94 9 q23) (isB.r (Or.inr rfl)) (OK_up (k := 94) (j := 9) ok tq23) hF
            refine at_aload_n (pc := 90) C 0 dX12_token_90 rfl rfl ?_
            refine at_aload_n (pc := 91) C 0 dX12_token_91 rfl rfl ?_
            refine at_geti (pc := 92) (jz := 7) C fw_12_96 kd94 rfl (Nat.le_of_ble_eq_true rfl) rfl rfl dX12_token_92 ?_
            obtain ⟨q26, eq26, hF⟩ := bind_some' hF
            refine at_callV (pc := 95) (ci := 12) C (c_X12_isSmall l g N (σ.1 94 7) σ q26 (ok 94 7) ok eq26) kv_X12_isSmall w1484 kd94 rfl rfl rfl rfl (Nat.le_of_ble_eq_true rfl) ⟨rfl, rfl, (Nat.le_of_ble_eq_true rfl), (Nat.le_of_ble_eq_true rfl)⟩ dX12_token_95 (fun tq26 okq26 => ?_)
            refine at_if_eq (pc := 98) (tgt := 114) C (isB.r tq26) dX12_token_98 rfl (fun c27 => ?_) (fun c27 => ?_)
            · have hF := (if_pos c27).symm.trans hF
              exact J114 σ ok hF
            · have hF := (if_neg c27).symm.trans hF
              refine at_aload_n (pc := 101) C 0 dX12_token_101 rfl rfl ?_
              refine at_dup (pc := 102) C dX12_token_102 rfl ?_
              refine at_geti (pc := 103) (jz := 7) C fw_12_96 kd94 rfl (Nat.le_of_ble_eq_true rfl) rfl rfl dX12_token_103 ?_
              refine at_iconst (pc := 106) C dX12_token_106 ?_
              refine at_iadd (pc := 107) C dX12_token_107 ?_
              refine at_puti (pc := 108) (jz := 7) C fu_12_96 kd94 rfl (Nat.le_of_ble_eq_true rfl) rfl rfl dX12_token_108 ?_
              refine at_goto (pc := 111) (tgt := 90) C dX12_token_111 rfl ?_
              exact ih90 _ hF (OK_up (k := 94) (j := 7) ok (ja_R (σ.1 94 7) 1))
          exact L90 (upI σ 94 10 (σ.1 94 7)) (OK_up (k := 94) (j := 10) ok (ok 94 7)) hF
      · have hF := (if_pos c1).symm.trans hF
        refine at_aload_n (pc := 71) C 0 dX12_token_71 rfl rfl ?_
        refine at_iconst (pc := 72) C dX12_token_72 ?_
        refine at_puti (pc := 73) (jz := 8) C fu_12_99 kd94 rfl (Nat.le_of_ble_eq_true rfl) rfl rfl dX12_token_73 ?_
        refine at_goto (pc := 76) (tgt := 406) C dX12_token_76 rfl ?_
        obtain rfl := Option.some.inj hF
        exact at_vret (pc := 406) C hr hlk (OK_up (k := 94) (j := 8) (OK_up (k := 94) (j := 10) ok (ok 94 7)) (isB.r (Or.inl rfl))) dX12_token_406
    refine at_aload_n (pc := 0) C 0 dX12_token_0 rfl rfl ?_
    refine at_geti (pc := 1) (jz := 7) C fw_12_96 kd94 rfl (Nat.le_of_ble_eq_true rfl) rfl rfl dX12_token_1 ?_
    refine at_aload_n (pc := 4) C 0 dX12_token_4 rfl rfl ?_
    refine at_geti (pc := 5) (jz := 6) C fw_12_93 kd94 rfl (Nat.le_of_ble_eq_true rfl) rfl rfl dX12_token_5 ?_
    refine at_icmp_ge (pc := 8) (tgt := 52) C (ok 94 7) (ok 94 6) dX12_token_8 rfl (fun c28 => ?_) (fun c28 => ?_)
    · have hF := (if_pos c28).symm.trans hF
      exact J52 σ ok hF
    · have hF := (if_neg c28).symm.trans hF
      have J39 : ∀  (σ : Sto), OK σ → F_X12_token_J39 N nx0  σ = some res → At p l e rm_X12_token s m args below meth c 0 0 g 1 (MQ below (QV g s.heap.size res) args s 0 0 (AA g s.heap.size)) 39 [(0, vr g 94)] [] σ := by
        intro σ ok hF
        unfold F_X12_token_J39 at hF
        refine at_aload_n (pc := 39) C 0 dX12_token_39 rfl rfl ?_
        refine at_dup (pc := 40) C dX12_token_40 rfl ?_
        refine at_geti (pc := 41) (jz := 7) C fw_12_96 kd94 rfl (Nat.le_of_ble_eq_true rfl) rfl rfl dX12_token_41 ?_
        refine at_iconst (pc := 44) C dX12_token_44 ?_
        refine at_iadd (pc := 45) C dX12_token_45 ?_
        refine at_puti (pc := 46) (jz := 7) C fu_12_96 kd94 rfl (Nat.le_of_ble_eq_true rfl) rfl rfl dX12_token_46 ?_
        refine at_goto (pc := 49) (tgt := 0) C dX12_token_49 rfl ?_
        exact ih0 _ hF (OK_up (k := 94) (j := 7) ok (ja_R (σ.1 94 7) 1))
      refine at_aload_n (pc := 11) C 0 dX12_token_11 rfl rfl ?_
      refine at_getr (pc := 12) (k' := 95) C 1 fw_12_7 kd94 rfl (Nat.le_of_ble_eq_true rfl) rfl rfl dX12_token_12 ?_
      refine at_aload_n (pc := 15) C 0 dX12_token_15 rfl rfl ?_
      refine at_geti (pc := 16) (jz := 7) C fw_12_96 kd94 rfl (Nat.le_of_ble_eq_true rfl) rfl rfl dX12_token_16 ?_
      obtain ⟨b29, hF⟩ := inb_some hF
      refine at_iaload (pc := 19) C kd95 b29 dX12_token_19 ?_
      refine at_bipush (pc := 20) C dX12_token_20 (by decide) ?_
      refine at_icmp_eq (pc := 22) (tgt := 39) C (ok 95 (σ.1 94 7)) (show inR 10 from ⟨by decide, by decide⟩) dX12_token_22 rfl (fun c30 => ?_) (fun c30 => ?_)
      · have hF := (if_pos c30).symm.trans hF
        exact J39 σ ok hF
      · have hF := (if_neg c30).symm.trans hF
        refine at_aload_n (pc := 25) C 0 dX12_token_25 rfl rfl ?_
        refine at_getr (pc := 26) (k' := 95) C 1 fw_12_7 kd94 rfl (Nat.le_of_ble_eq_true rfl) rfl rfl dX12_token_26 ?_
        refine at_aload_n (pc := 29) C 0 dX12_token_29 rfl rfl ?_
        refine at_geti (pc := 30) (jz := 7) C fw_12_96 kd94 rfl (Nat.le_of_ble_eq_true rfl) rfl rfl dX12_token_30 ?_
        refine at_iaload (pc := 33) C kd95 b29 dX12_token_33 ?_
        refine at_bipush (pc := 34) C dX12_token_34 (by decide) ?_
        refine at_icmp_ne (pc := 36) (tgt := 52) C (ok 95 (σ.1 94 7)) (show inR 32 from ⟨by decide, by decide⟩) dX12_token_36 rfl (fun c31 => ?_) (fun c31 => ?_)
        · have hF := (if_neg c31).symm.trans hF
          exact J52 σ ok hF
        · have hF := (if_pos c31).symm.trans hF
          exact J39 σ ok hF
  exact L0 σ ok hF
abbrev rm_X12_plain : Room := { frames := 0, cells := 0, slots := 0, locals := 0 }
def F_X12_plain (N : Nat)  (σ : Sto) : Option (Sto) :=
  inb 4 8 (inb 5 8 (inb 6 8 (inb 7 8 (some (upI (upI (upI (upI (upI (upI (upI (upI σ 94 12 0) 94 15 0) 94 18 0) 100 4 75) 100 5 0) 100 6 0) 100 7 0) 94 21 0)))))
set_option maxHeartbeats 4000000 in
set_option maxRecDepth 100000 in
theorem c_X12_plain (l : Launch) (g : Geo) (N : Nat)  (σ : Sto) (res : Sto)  (ok : OK σ) (hF : F_X12_plain N  σ = some res) : MtV l g yX12_plain cX12_plain 1 none rm_X12_plain [vr g 94] σ res := by
  intro sz
  refine Met.ofAt (own := RX12) (QQ := fun z => QV g z res) (by decide +kernel) (Nat.le_of_ble_eq_true rfl) rfl ?_
  intro p e s m args below meth c C hr hlk
  show At p l e rm_X12_plain s m args below meth c 0 0 g 1 (MQ below (QV g s.heap.size res) args s 0 0 (AA g s.heap.size)) 0 [(0, vr g 94)] [] σ
  unfold F_X12_plain at hF
  refine at_aload_n (pc := 0) C 0 dX12_plain_0 rfl rfl ?_
  refine at_iconst (pc := 1) C dX12_plain_1 ?_
  refine at_puti (pc := 2) (jz := 12) C fu_12_120 kd94 rfl (Nat.le_of_ble_eq_true rfl) rfl rfl dX12_plain_2 ?_
  refine at_aload_n (pc := 5) C 0 dX12_plain_5 rfl rfl ?_
  refine at_iconst (pc := 6) C dX12_plain_6 ?_
  refine at_puti (pc := 7) (jz := 15) C fu_12_123 kd94 rfl (Nat.le_of_ble_eq_true rfl) rfl rfl dX12_plain_7 ?_
  refine at_aload_n (pc := 10) C 0 dX12_plain_10 rfl rfl ?_
  refine at_iconst (pc := 11) C dX12_plain_11 ?_
  refine at_puti (pc := 12) (jz := 18) C fu_12_126 kd94 rfl (Nat.le_of_ble_eq_true rfl) rfl rfl dX12_plain_12 ?_
  refine at_aload_n (pc := 15) C 0 dX12_plain_15 rfl rfl ?_
  refine at_getr (pc := 16) (k' := 100) C 6 fw_12_29 kd94 rfl (Nat.le_of_ble_eq_true rfl) rfl rfl dX12_plain_16 ?_
  refine at_iconst (pc := 19) C dX12_plain_19 ?_
  refine at_bipush (pc := 20) C dX12_plain_20 (by decide) ?_
  obtain ⟨b1, hF⟩ := inb_some hF
  refine at_iastore (pc := 22) C kd100 b1 dX12_plain_22 ?_
  refine at_aload_n (pc := 23) C 0 dX12_plain_23 rfl rfl ?_
  refine at_getr (pc := 24) (k' := 100) C 6 fw_12_29 kd94 rfl (Nat.le_of_ble_eq_true rfl) rfl rfl dX12_plain_24 ?_
  refine at_iconst (pc := 27) C dX12_plain_27 ?_
  refine at_iconst (pc := 28) C dX12_plain_28 ?_
  obtain ⟨b2, hF⟩ := inb_some hF
  refine at_iastore (pc := 29) C kd100 b2 dX12_plain_29 ?_
  refine at_aload_n (pc := 30) C 0 dX12_plain_30 rfl rfl ?_
  refine at_getr (pc := 31) (k' := 100) C 6 fw_12_29 kd94 rfl (Nat.le_of_ble_eq_true rfl) rfl rfl dX12_plain_31 ?_
  refine at_bipush (pc := 34) C dX12_plain_34 (by decide) ?_
  refine at_iconst (pc := 36) C dX12_plain_36 ?_
  obtain ⟨b3, hF⟩ := inb_some hF
  refine at_iastore (pc := 37) C kd100 b3 dX12_plain_37 ?_
  refine at_aload_n (pc := 38) C 0 dX12_plain_38 rfl rfl ?_
  refine at_getr (pc := 39) (k' := 100) C 6 fw_12_29 kd94 rfl (Nat.le_of_ble_eq_true rfl) rfl rfl dX12_plain_39 ?_
  refine at_bipush (pc := 42) C dX12_plain_42 (by decide) ?_
  refine at_iconst (pc := 44) C dX12_plain_44 ?_
  obtain ⟨b4, hF⟩ := inb_some hF
  refine at_iastore (pc := 45) C kd100 b4 dX12_plain_45 ?_
  refine at_aload_n (pc := 46) C 0 dX12_plain_46 rfl rfl ?_
  refine at_iconst (pc := 47) C dX12_plain_47 ?_
  refine at_puti (pc := 48) (jz := 21) C fu_12_129 kd94 rfl (Nat.le_of_ble_eq_true rfl) rfl rfl dX12_plain_48 ?_
  obtain rfl := Option.some.inj hF
  exact at_vret (pc := 51) C hr hlk (OK_up (k := 94) (j := 21) (OK_up (k := 100) (j := 7) (OK_up (k := 100) (j := 6) (OK_up (k := 100) (j := 5) (OK_up (k := 100) (j := 4) (OK_up (k := 94) (j := 18) (OK_up (k := 94) (j := 15) (OK_up (k := 94) (j := 12) ok (isB.r (Or.inl rfl))) (isB.r (Or.inl rfl))) (isB.r (Or.inl rfl))) (show inR 75 from ⟨by decide, by decide⟩)) (isB.r (Or.inl rfl))) (isB.r (Or.inl rfl))) (isB.r (Or.inl rfl))) (isB.r (Or.inl rfl))) dX12_plain_51
abbrev rm_X12_copies : Room := { frames := 0, cells := 0, slots := 0, locals := 0 }
def F_X12_copies_B2 (N : Nat) (nx2 : (Int × Sto) → Option (Sto)) (v0 : Nat) (v1 : Int) (v2 : Int) (σ : Sto) : Option (Sto) :=
  if v1 ≤ v2 then (some σ) else (inb (ja v1 v2) ((knd v0).2 : Int) (inb v2 ((knd v0).2 : Int) (nx2 ((ja v2 1), (upI σ v0 v2 (σ.1 v0 (ja v1 v2)))))))
def F_X12_copies (N : Nat) (v0 : Nat) (v1 : Int) (σ : Sto) : Option (Sto) :=
  loopK (fun q nx2 => F_X12_copies_B2 N  nx2 v0 v1 q.1 q.2) N (0, σ)
set_option maxHeartbeats 4000000 in
set_option maxRecDepth 100000 in
theorem c_X12_copies (l : Launch) (g : Geo) (N : Nat) (v0 : Nat) (v1 : Int) (σ : Sto) (res : Sto) (hk0 : knd v0 = (0, (knd v0).2)) (h1 : inR v1) (ok : OK σ) (hF : F_X12_copies N v0 v1 σ = some res) : MtV l g yX12_copies cX12_copies 3 none rm_X12_copies [vr g v0, vi v1] σ res := by
  intro sz
  refine Met.ofAt (own := RX12) (QQ := fun z => QV g z res) (by decide +kernel) (Nat.le_of_ble_eq_true rfl) rfl ?_
  intro p e s m args below meth c C hr hlk
  show At p l e rm_X12_copies s m args below meth c 0 0 g 3 (MQ below (QV g s.heap.size res) args s 0 0 (AA g s.heap.size)) 0 [(0, vr g v0), (1, vi v1)] [] σ
  unfold F_X12_copies at hF
  refine at_iconst (pc := 0) C dX12_copies_0 ?_
  refine at_istore_n (pc := 1) (lv' := [(2, vi 0), (0, vr g v0), (1, vi v1)]) C dX12_copies_1 rfl (Nat.le_of_ble_eq_true rfl) rfl ?_
  have L2 : ∀ (v0 : Nat) (v1 : Int) (v2 : Int) (σ : Sto), knd v0 = (0, (knd v0).2) → inR v1 → inR v2 → OK σ → loopK (fun q nx2 => F_X12_copies_B2 N  nx2 v0 v1 q.1 q.2) N (v2, σ) = some res → At p l e rm_X12_copies s m args below meth c 0 0 g 3 (MQ below (QV g s.heap.size res) args s 0 0 (AA g s.heap.size)) 2 [(0, vr g v0), (1, vi v1), (2, vi v2)] [] σ := by
    intro v0 v1 v2 σ hk0 h1 h2 ok hF
    refine loopK_ind (res := res) (P := fun (q : Int × Sto) => inR q.1 → OK q.2 → At p l e rm_X12_copies s m args below meth c 0 0 g 3 (MQ below (QV g s.heap.size res) args s 0 0 (AA g s.heap.size)) 2 [(0, vr g v0), (1, vi v1), (2, vi q.1)] [] q.2) ?_ N _ hF h2 ok
    intro nx2 q ih2 hF
    obtain ⟨v2, σ⟩ := q
    intro h2 ok
    have hF : F_X12_copies_B2 N  nx2 v0 v1 v2 σ = some res := hF
    unfold F_X12_copies_B2 at hF
    refine at_iload_n (pc := 2) C 2 dX12_copies_2 rfl rfl ?_
    refine at_iload_n (pc := 3) C 1 dX12_copies_3 rfl rfl ?_
    refine at_icmp_ge (pc := 4) (tgt := 21) C h2 h1 dX12_copies_4 rfl (fun c1 => ?_) (fun c1 => ?_)
    · have hF := (if_pos c1).symm.trans hF
      obtain rfl := Option.some.inj hF
      exact at_vret (pc := 21) C hr hlk ok dX12_copies_21
    · have hF := (if_neg c1).symm.trans hF
      refine at_aload_n (pc := 7) C 0 dX12_copies_7 rfl rfl ?_
      refine at_iload_n (pc := 8) C 2 dX12_copies_8 rfl rfl ?_
      refine at_aload_n (pc := 9) C 0 dX12_copies_9 rfl rfl ?_
      refine at_iload_n (pc := 10) C 1 dX12_copies_10 rfl rfl ?_
      refine at_iload_n (pc := 11) C 2 dX12_copies_11 rfl rfl ?_
      refine at_iadd (pc := 12) C dX12_copies_12 ?_
      obtain ⟨b2, hF⟩ := inb_some hF
      refine at_iaload (pc := 13) C hk0 b2 dX12_copies_13 ?_
      obtain ⟨b3, hF⟩ := inb_some hF
      refine at_iastore (pc := 14) C hk0 b3 dX12_copies_14 ?_
      refine at_iinc (pc := 15) (lv' := [(2, vi (ja v2 1)), (0, vr g v0), (1, vi v1)]) C 2 dX12_copies_15 rfl (Nat.le_of_ble_eq_true rfl) rfl ?_
      refine at_goto (pc := 18) (tgt := 2) C dX12_copies_18 rfl ?_
      refine at_sub (lv' := [(0, vr g v0), (1, vi v1), (2, vi (ja v2 1))]) [1, 2, 0] rfl ?_
      exact ih2 _ hF (ja_R v2 1) (OK_up (k := v0) (j := v2) ok (ok v0 (ja v1 v2)))
  refine at_sub (lv' := [(0, vr g v0), (1, vi v1), (2, vi 0)]) [1, 2, 0] rfl ?_
  exact L2 v0 v1 0 σ hk0 h1 (isB.r (Or.inl rfl)) ok hF
abbrev rm_X12_lay : Room := { frames := 0, cells := 0, slots := 0, locals := 0 }
def F_X12_lay (N : Nat) (v1 : Int) (v2 : Int) (σ : Sto) : Option (Sto) :=
  inb (ja (jm 200 (σ.1 94 24)) v1) 4600 (some (upI σ 101 (ja (jm 200 (σ.1 94 24)) v1) v2))
set_option maxHeartbeats 4000000 in
set_option maxRecDepth 100000 in
theorem c_X12_lay (l : Launch) (g : Geo) (N : Nat) (v1 : Int) (v2 : Int) (σ : Sto) (res : Sto) (h1 : inR v1) (h2 : inR v2) (ok : OK σ) (hF : F_X12_lay N v1 v2 σ = some res) : MtV l g yX12_lay cX12_lay 3 none rm_X12_lay [vr g 94, vi v1, vi v2] σ res := by
  intro sz
  refine Met.ofAt (own := RX12) (QQ := fun z => QV g z res) (by decide +kernel) (Nat.le_of_ble_eq_true rfl) rfl ?_
  intro p e s m args below meth c C hr hlk
  show At p l e rm_X12_lay s m args below meth c 0 0 g 3 (MQ below (QV g s.heap.size res) args s 0 0 (AA g s.heap.size)) 0 [(0, vr g 94), (1, vi v1), (2, vi v2)] [] σ
  unfold F_X12_lay at hF
  refine at_aload_n (pc := 0) C 0 dX12_lay_0 rfl rfl ?_
  refine at_getr (pc := 1) (k' := 101) C 7 fw_12_32 kd94 rfl (Nat.le_of_ble_eq_true rfl) rfl rfl dX12_lay_1 ?_
  refine at_sipush (pc := 4) C dX12_lay_4 (by decide) ?_
  refine at_aload_n (pc := 7) C 0 dX12_lay_7 rfl rfl ?_
  refine at_geti (pc := 8) (jz := 24) C fw_12_148 kd94 rfl (Nat.le_of_ble_eq_true rfl) rfl rfl dX12_lay_8 ?_
  refine at_imul (pc := 11) C dX12_lay_11 ?_
  refine at_iload_n (pc := 12) C 1 dX12_lay_12 rfl rfl ?_
  refine at_iadd (pc := 13) C dX12_lay_13 ?_
  refine at_iload_n (pc := 14) C 2 dX12_lay_14 rfl rfl ?_
  obtain ⟨b1, hF⟩ := inb_some hF
  refine at_iastore (pc := 15) C kd101 b1 dX12_lay_15 ?_
  obtain rfl := Option.some.inj hF
  exact at_vret (pc := 16) C hr hlk (OK_up (k := 101) (j := (ja (jm 200 (σ.1 94 24)) v1)) ok h2) dX12_lay_16
abbrev rm_X12_keepText : Room := { frames := 1, cells := 0, slots := 0, locals := 22 }
def F_X12_keepText_B136 (N : Nat) (nx136 : (Int × Sto) → Option (Sto))  (v1 : Int) (σ : Sto) : Option (Sto) :=
  if (jm 4 (σ.1 94 17)) ≤ v1 then (some σ) else (inb v1 128 ((F_X12_lay N (ja 104 v1) (σ.1 99 v1) σ).bind (fun q10 => nx136 ((ja v1 1), q10))))
def F_X12_keepText_J134 (N : Nat)   (σ : Sto) : Option (Sto) :=
  loopK (fun q nx136 => F_X12_keepText_B136 N  nx136  q.1 q.2) N (0, σ)
def F_X12_keepText_B102 (N : Nat) (nx102 : (Int × Sto) → Option (Sto))  (v1 : Int) (σ : Sto) : Option (Sto) :=
  if (σ.1 94 14) ≤ v1 then (F_X12_keepText_J134 N   σ) else (inb (ja (jm 4 v1) 3) 96 ((F_X12_lay N (ja 91 v1) (σ.1 98 (ja (jm 4 v1) 3)) σ).bind (fun q13 => nx102 ((ja v1 1), q13))))
def F_X12_keepText (N : Nat)  (σ : Sto) : Option (Sto) :=
  (F_X12_copies N 97 24 (upI (upI (upI σ 94 11 (σ.1 94 12)) 94 14 ((upI σ 94 11 (σ.1 94 12)).1 94 15)) 94 17 ((upI (upI σ 94 11 (σ.1 94 12)) 94 14 ((upI σ 94 11 (σ.1 94 12)).1 94 15)).1 94 18))).bind (fun q1 => (F_X12_copies N 98 48 q1).bind (fun q2 => (F_X12_copies N 99 64 q2).bind (fun q3 => (F_X12_copies N 100 4 q3).bind (fun q4 => inb 3 8 ((F_X12_lay N 0 0 (upI (upI (upI (upI q4 94 33 (q4.1 100 3)) 94 24 0) 94 25 0) 94 26 0)).bind (fun q6 => (F_X12_lay N 103 (q6.1 94 17) q6).bind (fun q7 => loopK (fun q nx102 => F_X12_keepText_B102 N  nx102  q.1 q.2) N (0, q7))))))))
set_option maxHeartbeats 4000000 in
set_option maxRecDepth 100000 in
theorem c_X12_keepText (l : Launch) (g : Geo) (N : Nat)  (σ : Sto) (res : Sto)  (ok : OK σ) (hF : F_X12_keepText N  σ = some res) : MtV l g yX12_keepText cX12_keepText 2 none rm_X12_keepText [vr g 94] σ res := by
  intro sz
  refine Met.ofAt (own := RX12) (QQ := fun z => QV g z res) (by decide +kernel) (Nat.le_of_ble_eq_true rfl) rfl ?_
  intro p e s m args below meth c C hr hlk
  show At p l e rm_X12_keepText s m args below meth c 0 0 g 2 (MQ below (QV g s.heap.size res) args s 0 0 (AA g s.heap.size)) 0 [(0, vr g 94)] [] σ
  unfold F_X12_keepText at hF
  refine at_aload_n (pc := 0) C 0 dX12_keepText_0 rfl rfl ?_
  refine at_aload_n (pc := 1) C 0 dX12_keepText_1 rfl rfl ?_
  refine at_geti (pc := 2) (jz := 12) C fw_12_120 kd94 rfl (Nat.le_of_ble_eq_true rfl) rfl rfl dX12_keepText_2 ?_
  refine at_puti (pc := 5) (jz := 11) C fu_12_132 kd94 rfl (Nat.le_of_ble_eq_true rfl) rfl rfl dX12_keepText_5 ?_
  refine at_aload_n (pc := 8) C 0 dX12_keepText_8 rfl rfl ?_
  refine at_aload_n (pc := 9) C 0 dX12_keepText_9 rfl rfl ?_
  refine at_geti (pc := 10) (jz := 15) C fw_12_123 kd94 rfl (Nat.le_of_ble_eq_true rfl) rfl rfl dX12_keepText_10 ?_
  refine at_puti (pc := 13) (jz := 14) C fu_12_135 kd94 rfl (Nat.le_of_ble_eq_true rfl) rfl rfl dX12_keepText_13 ?_
  refine at_aload_n (pc := 16) C 0 dX12_keepText_16 rfl rfl ?_
  refine at_aload_n (pc := 17) C 0 dX12_keepText_17 rfl rfl ?_
  refine at_geti (pc := 18) (jz := 18) C fw_12_126 kd94 rfl (Nat.le_of_ble_eq_true rfl) rfl rfl dX12_keepText_18 ?_
  refine at_puti (pc := 21) (jz := 17) C fu_12_138 kd94 rfl (Nat.le_of_ble_eq_true rfl) rfl rfl dX12_keepText_21 ?_
  refine at_aload_n (pc := 24) C 0 dX12_keepText_24 rfl rfl ?_
  refine at_getr (pc := 25) (k' := 97) C 3 fw_12_20 kd94 rfl (Nat.le_of_ble_eq_true rfl) rfl rfl dX12_keepText_25 ?_
  refine at_bipush (pc := 28) C dX12_keepText_28 (by decide) ?_
  obtain ⟨q1, eq1, hF⟩ := bind_some' hF
  refine at_callSv (pc := 30) C (c_X12_copies l g N 97 24 (upI (upI (upI σ 94 11 (σ.1 94 12)) 94 14 ((upI σ 94 11 (σ.1 94 12)).1 94 15)) 94 17 ((upI (upI σ 94 11 (σ.1 94 12)) 94 14 ((upI σ 94 11 (σ.1 94 12)).1 94 15)).1 94 18)) q1 kd97 (show inR 24 from ⟨by decide, by decide⟩) (OK_up (k := 94) (j := 17) (OK_up (k := 94) (j := 14) (OK_up (k := 94) (j := 11) ok (ok 94 12)) ((OK_up (k := 94) (j := 11) ok (ok 94 12)) 94 15)) ((OK_up (k := 94) (j := 14) (OK_up (k := 94) (j := 11) ok (ok 94 12)) ((OK_up (k := 94) (j := 11) ok (ok 94 12)) 94 15)) 94 18)) eq1) ks_X12_copies w1316 rfl rfl (Nat.le_of_ble_eq_true rfl) ⟨rfl, rfl, (Nat.le_of_ble_eq_true rfl), (Nat.le_of_ble_eq_true rfl)⟩ dX12_keepText_30 (fun okq1 => ?_)
  refine at_aload_n (pc := 33) C 0 dX12_keepText_33 rfl rfl ?_
  refine at_getr (pc := 34) (k' := 98) C 4 fw_12_23 kd94 rfl (Nat.le_of_ble_eq_true rfl) rfl rfl dX12_keepText_34 ?_
  refine at_bipush (pc := 37) C dX12_keepText_37 (by decide) ?_
  obtain ⟨q2, eq2, hF⟩ := bind_some' hF
  refine at_callSv (pc := 39) C (c_X12_copies l g N 98 48 q1 q2 kd98 (show inR 48 from ⟨by decide, by decide⟩) okq1 eq2) ks_X12_copies w1316 rfl rfl (Nat.le_of_ble_eq_true rfl) ⟨rfl, rfl, (Nat.le_of_ble_eq_true rfl), (Nat.le_of_ble_eq_true rfl)⟩ dX12_keepText_39 (fun okq2 => ?_)
  refine at_aload_n (pc := 42) C 0 dX12_keepText_42 rfl rfl ?_
  refine at_getr (pc := 43) (k' := 99) C 5 fw_12_26 kd94 rfl (Nat.le_of_ble_eq_true rfl) rfl rfl dX12_keepText_43 ?_
  refine at_bipush (pc := 46) C dX12_keepText_46 (by decide) ?_
  obtain ⟨q3, eq3, hF⟩ := bind_some' hF
  refine at_callSv (pc := 48) C (c_X12_copies l g N 99 64 q2 q3 kd99 (show inR 64 from ⟨by decide, by decide⟩) okq2 eq3) ks_X12_copies w1316 rfl rfl (Nat.le_of_ble_eq_true rfl) ⟨rfl, rfl, (Nat.le_of_ble_eq_true rfl), (Nat.le_of_ble_eq_true rfl)⟩ dX12_keepText_48 (fun okq3 => ?_)
  refine at_aload_n (pc := 51) C 0 dX12_keepText_51 rfl rfl ?_
  refine at_getr (pc := 52) (k' := 100) C 6 fw_12_29 kd94 rfl (Nat.le_of_ble_eq_true rfl) rfl rfl dX12_keepText_52 ?_
  refine at_iconst (pc := 55) C dX12_keepText_55 ?_
  obtain ⟨q4, eq4, hF⟩ := bind_some' hF
  refine at_callSv (pc := 56) C (c_X12_copies l g N 100 4 q3 q4 kd100 (show inR 4 from ⟨by decide, by decide⟩) okq3 eq4) ks_X12_copies w1316 rfl rfl (Nat.le_of_ble_eq_true rfl) ⟨rfl, rfl, (Nat.le_of_ble_eq_true rfl), (Nat.le_of_ble_eq_true rfl)⟩ dX12_keepText_56 (fun okq4 => ?_)
  refine at_aload_n (pc := 59) C 0 dX12_keepText_59 rfl rfl ?_
  refine at_aload_n (pc := 60) C 0 dX12_keepText_60 rfl rfl ?_
  refine at_getr (pc := 61) (k' := 100) C 6 fw_12_29 kd94 rfl (Nat.le_of_ble_eq_true rfl) rfl rfl dX12_keepText_61 ?_
  refine at_iconst (pc := 64) C dX12_keepText_64 ?_
  obtain ⟨b5, hF⟩ := inb_some hF
  refine at_iaload (pc := 65) C kd100 b5 dX12_keepText_65 ?_
  refine at_puti (pc := 66) (jz := 33) C fu_12_145 kd94 rfl (Nat.le_of_ble_eq_true rfl) rfl rfl dX12_keepText_66 ?_
  refine at_aload_n (pc := 69) C 0 dX12_keepText_69 rfl rfl ?_
  refine at_iconst (pc := 70) C dX12_keepText_70 ?_
  refine at_puti (pc := 71) (jz := 24) C fu_12_148 kd94 rfl (Nat.le_of_ble_eq_true rfl) rfl rfl dX12_keepText_71 ?_
  refine at_aload_n (pc := 74) C 0 dX12_keepText_74 rfl rfl ?_
  refine at_iconst (pc := 75) C dX12_keepText_75 ?_
  refine at_puti (pc := 76) (jz := 25) C fu_12_151 kd94 rfl (Nat.le_of_ble_eq_true rfl) rfl rfl dX12_keepText_76 ?_
  refine at_aload_n (pc := 79) C 0 dX12_keepText_79 rfl rfl ?_
  refine at_iconst (pc := 80) C dX12_keepText_80 ?_
  refine at_putz (pc := 81) (jz := 26) C fu_12_154 kd94 rfl (Nat.le_of_ble_eq_true rfl) rfl (Or.inl rfl) rfl dX12_keepText_81 ?_
  refine at_aload_n (pc := 84) C 0 dX12_keepText_84 rfl rfl ?_
  refine at_iconst (pc := 85) C dX12_keepText_85 ?_
  refine at_iconst (pc := 86) C dX12_keepText_86 ?_
  obtain ⟨q6, eq6, hF⟩ := bind_some' hF
  refine at_callVv (pc := 87) (ci := 12) C (c_X12_lay l g N 0 0 (upI (upI (upI (upI q4 94 33 (q4.1 100 3)) 94 24 0) 94 25 0) 94 26 0) q6 (isB.r (Or.inl rfl)) (isB.r (Or.inl rfl)) (OK_up (k := 94) (j := 26) (OK_up (k := 94) (j := 25) (OK_up (k := 94) (j := 24) (OK_up (k := 94) (j := 33) okq4 (okq4 100 3)) (isB.r (Or.inl rfl))) (isB.r (Or.inl rfl))) (isB.r (Or.inl rfl))) eq6) kv_X12_lay w1319 kd94 rfl rfl rfl rfl (Nat.le_of_ble_eq_true rfl) ⟨rfl, rfl, (Nat.le_of_ble_eq_true rfl), (Nat.le_of_ble_eq_true rfl)⟩ dX12_keepText_87 (fun okq6 => ?_)
  refine at_aload_n (pc := 90) C 0 dX12_keepText_90 rfl rfl ?_
  refine at_bipush (pc := 91) C dX12_keepText_91 (by decide) ?_
  refine at_aload_n (pc := 93) C 0 dX12_keepText_93 rfl rfl ?_
  refine at_geti (pc := 94) (jz := 17) C fw_12_138 kd94 rfl (Nat.le_of_ble_eq_true rfl) rfl rfl dX12_keepText_94 ?_
  obtain ⟨q7, eq7, hF⟩ := bind_some' hF
  refine at_callVv (pc := 97) (ci := 12) C (c_X12_lay l g N 103 (q6.1 94 17) q6 q7 (show inR 103 from ⟨by decide, by decide⟩) (okq6 94 17) okq6 eq7) kv_X12_lay w1319 kd94 rfl rfl rfl rfl (Nat.le_of_ble_eq_true rfl) ⟨rfl, rfl, (Nat.le_of_ble_eq_true rfl), (Nat.le_of_ble_eq_true rfl)⟩ dX12_keepText_97 (fun okq7 => ?_)
  refine at_iconst (pc := 100) C dX12_keepText_100 ?_
  refine at_istore_n (pc := 101) (lv' := [(1, vi 0), (0, vr g 94)]) C dX12_keepText_101 rfl (Nat.le_of_ble_eq_true rfl) rfl ?_
  have L102 : ∀ (v1 : Int) (σ : Sto), inR v1 → OK σ → loopK (fun q nx102 => F_X12_keepText_B102 N  nx102  q.1 q.2) N (v1, σ) = some res → At p l e rm_X12_keepText s m args below meth c 0 0 g 2 (MQ below (QV g s.heap.size res) args s 0 0 (AA g s.heap.size)) 102 [(0, vr g 94), (1, vi v1)] [] σ := by
    intro v1 σ h1 ok hF
    refine loopK_ind (res := res) (P := fun (q : Int × Sto) => inR q.1 → OK q.2 → At p l e rm_X12_keepText s m args below meth c 0 0 g 2 (MQ below (QV g s.heap.size res) args s 0 0 (AA g s.heap.size)) 102 [(0, vr g 94), (1, vi q.1)] [] q.2) ?_ N _ hF h1 ok
    intro nx102 q ih102 hF
    obtain ⟨v1, σ⟩ := q
    intro h1 ok
    have hF : F_X12_keepText_B102 N  nx102  v1 σ = some res := hF
    unfold F_X12_keepText_B102 at hF
    have J134 : ∀  (σ : Sto), OK σ → F_X12_keepText_J134 N   σ = some res → At p l e rm_X12_keepText s m args below meth c 0 0 g 2 (MQ below (QV g s.heap.size res) args s 0 0 (AA g s.heap.size)) 134 [(0, vr g 94)] [] σ := by
      intro σ ok hF
      unfold F_X12_keepText_J134 at hF
      refine at_iconst (pc := 134) C dX12_keepText_134 ?_
      refine at_istore_n (pc := 135) (lv' := [(1, vi 0), (0, vr g 94)]) C dX12_keepText_135 rfl (Nat.le_of_ble_eq_true rfl) rfl ?_
      have L136 : ∀ (v1 : Int) (σ : Sto), inR v1 → OK σ → loopK (fun q nx136 => F_X12_keepText_B136 N  nx136  q.1 q.2) N (v1, σ) = some res → At p l e rm_X12_keepText s m args below meth c 0 0 g 2 (MQ below (QV g s.heap.size res) args s 0 0 (AA g s.heap.size)) 136 [(0, vr g 94), (1, vi v1)] [] σ := by
        intro v1 σ h1 ok hF
        refine loopK_ind (res := res) (P := fun (q : Int × Sto) => inR q.1 → OK q.2 → At p l e rm_X12_keepText s m args below meth c 0 0 g 2 (MQ below (QV g s.heap.size res) args s 0 0 (AA g s.heap.size)) 136 [(0, vr g 94), (1, vi q.1)] [] q.2) ?_ N _ hF h1 ok
        intro nx136 q ih136 hF
        obtain ⟨v1, σ⟩ := q
        intro h1 ok
        have hF : F_X12_keepText_B136 N  nx136  v1 σ = some res := hF
        unfold F_X12_keepText_B136 at hF
        refine at_iload_n (pc := 136) C 1 dX12_keepText_136 rfl rfl ?_
        refine at_iconst (pc := 137) C dX12_keepText_137 ?_
        refine at_aload_n (pc := 138) C 0 dX12_keepText_138 rfl rfl ?_
        refine at_geti (pc := 139) (jz := 17) C fw_12_138 kd94 rfl (Nat.le_of_ble_eq_true rfl) rfl rfl dX12_keepText_139 ?_
        refine at_imul (pc := 142) C dX12_keepText_142 ?_
        refine at_icmp_ge (pc := 143) (tgt := 166) C h1 (jm_R 4 (σ.1 94 17)) dX12_keepText_143 rfl (fun c8 => ?_) (fun c8 => ?_)
        · have hF := (if_pos c8).symm.trans hF
          obtain rfl := Option.some.inj hF
          exact at_vret (pc := 166) C hr hlk ok dX12_keepText_166
        · have hF := (if_neg c8).symm.trans hF
          refine at_aload_n (pc := 146) C 0 dX12_keepText_146 rfl rfl ?_
          refine at_bipush (pc := 147) C dX12_keepText_147 (by decide) ?_
          refine at_iload_n (pc := 149) C 1 dX12_keepText_149 rfl rfl ?_
          refine at_iadd (pc := 150) C dX12_keepText_150 ?_
          refine at_aload_n (pc := 151) C 0 dX12_keepText_151 rfl rfl ?_
          refine at_getr (pc := 152) (k' := 99) C 5 fw_12_26 kd94 rfl (Nat.le_of_ble_eq_true rfl) rfl rfl dX12_keepText_152 ?_
          refine at_iload_n (pc := 155) C 1 dX12_keepText_155 rfl rfl ?_
          obtain ⟨b9, hF⟩ := inb_some hF
          refine at_iaload (pc := 156) C kd99 b9 dX12_keepText_156 ?_
          obtain ⟨q10, eq10, hF⟩ := bind_some' hF
          refine at_callVv (pc := 157) (ci := 12) C (c_X12_lay l g N (ja 104 v1) (σ.1 99 v1) σ q10 (ja_R 104 v1) (ok 99 v1) ok eq10) kv_X12_lay w1319 kd94 rfl rfl rfl rfl (Nat.le_of_ble_eq_true rfl) ⟨rfl, rfl, (Nat.le_of_ble_eq_true rfl), (Nat.le_of_ble_eq_true rfl)⟩ dX12_keepText_157 (fun okq10 => ?_)
          refine at_iinc (pc := 160) (lv' := [(1, vi (ja v1 1)), (0, vr g 94)]) C 1 dX12_keepText_160 rfl (Nat.le_of_ble_eq_true rfl) rfl ?_
          refine at_goto (pc := 163) (tgt := 136) C dX12_keepText_163 rfl ?_
          refine at_sub (lv' := [(0, vr g 94), (1, vi (ja v1 1))]) [1, 0] rfl ?_
          exact ih136 _ hF (ja_R v1 1) okq10
      refine at_sub (lv' := [(0, vr g 94), (1, vi 0)]) [1, 0] rfl ?_
      exact L136 0 σ (isB.r (Or.inl rfl)) ok hF
    refine at_iload_n (pc := 102) C 1 dX12_keepText_102 rfl rfl ?_
    refine at_aload_n (pc := 103) C 0 dX12_keepText_103 rfl rfl ?_
    refine at_geti (pc := 104) (jz := 14) C fw_12_135 kd94 rfl (Nat.le_of_ble_eq_true rfl) rfl rfl dX12_keepText_104 ?_
    refine at_icmp_ge (pc := 107) (tgt := 134) C h1 (ok 94 14) dX12_keepText_107 rfl (fun c11 => ?_) (fun c11 => ?_)
    · have hF := (if_pos c11).symm.trans hF
      refine at_sub (lv' := [(0, vr g 94)]) [0] rfl ?_
      exact J134 σ ok hF
    · have hF := (if_neg c11).symm.trans hF
      refine at_aload_n (pc := 110) C 0 dX12_keepText_110 rfl rfl ?_
      refine at_bipush (pc := 111) C dX12_keepText_111 (by decide) ?_
      refine at_iload_n (pc := 113) C 1 dX12_keepText_113 rfl rfl ?_
      refine at_iadd (pc := 114) C dX12_keepText_114 ?_
      refine at_aload_n (pc := 115) C 0 dX12_keepText_115 rfl rfl ?_
      refine at_getr (pc := 116) (k' := 98) C 4 fw_12_23 kd94 rfl (Nat.le_of_ble_eq_true rfl) rfl rfl dX12_keepText_116 ?_
      refine at_iconst (pc := 119) C dX12_keepText_119 ?_
      refine at_iload_n (pc := 120) C 1 dX12_keepText_120 rfl rfl ?_
      refine at_imul (pc := 121) C dX12_keepText_121 ?_
      refine at_iconst (pc := 122) C dX12_keepText_122 ?_
      refine at_iadd (pc := 123) C dX12_keepText_123 ?_
      obtain ⟨b12, hF⟩ := inb_some hF
      refine at_iaload (pc := 124) C kd98 b12 dX12_keepText_124 ?_
      obtain ⟨q13, eq13, hF⟩ := bind_some' hF
      refine at_callVv (pc := 125) (ci := 12) C (c_X12_lay l g N (ja 91 v1) (σ.1 98 (ja (jm 4 v1) 3)) σ q13 (ja_R 91 v1) (ok 98 (ja (jm 4 v1) 3)) ok eq13) kv_X12_lay w1319 kd94 rfl rfl rfl rfl (Nat.le_of_ble_eq_true rfl) ⟨rfl, rfl, (Nat.le_of_ble_eq_true rfl), (Nat.le_of_ble_eq_true rfl)⟩ dX12_keepText_125 (fun okq13 => ?_)
      refine at_iinc (pc := 128) (lv' := [(1, vi (ja v1 1)), (0, vr g 94)]) C 1 dX12_keepText_128 rfl (Nat.le_of_ble_eq_true rfl) rfl ?_
      refine at_goto (pc := 131) (tgt := 102) C dX12_keepText_131 rfl ?_
      refine at_sub (lv' := [(0, vr g 94), (1, vi (ja v1 1))]) [1, 0] rfl ?_
      exact ih102 _ hF (ja_R v1 1) okq13
  refine at_sub (lv' := [(0, vr g 94), (1, vi 0)]) [1, 0] rfl ?_
  exact L102 0 q7 (isB.r (Or.inl rfl)) okq7 hF
abbrev rm_X12_nameAt : Room := { frames := 0, cells := 0, slots := 0, locals := 0 }
def F_X12_nameAt_B3 (N : Nat) (nx3 : (Int) → Option (Int)) (v1 : Int) (v2 : Int) (v3 : Int) (v4 : Int) (σ : Sto) : Option (Int) :=
  if v3 ≤ v4 then (some (-1)) else (inb (ja v2 (jm 3 v4)) 48 (if (σ.1 97 (ja v2 (jm 3 v4))) = v1 then (some v4) else (nx3 (ja v4 1))))
def F_X12_nameAt (N : Nat) (v1 : Int) (v2 : Int) (v3 : Int) (σ : Sto) : Option (Int) :=
  loopK (fun q nx3 => F_X12_nameAt_B3 N  nx3 v1 v2 v3 q σ) N 0
set_option maxHeartbeats 4000000 in
set_option maxRecDepth 100000 in
theorem c_X12_nameAt (l : Launch) (g : Geo) (N : Nat) (v1 : Int) (v2 : Int) (v3 : Int) (σ : Sto) (res : Int) (h1 : inR v1) (h2 : inR v2) (h3 : inR v3) (ok : OK σ) (hF : F_X12_nameAt N v1 v2 v3 σ = some res) : MtI l g yX12_nameAt cX12_nameAt 5 (some .int) rm_X12_nameAt [vr g 94, vi v1, vi v2, vi v3] σ res σ inR := by
  intro sz
  refine Met.ofAt (own := RX12) (QQ := fun z => QI g z res σ inR) (by decide +kernel) (Nat.le_of_ble_eq_true rfl) rfl ?_
  intro p e s m args below meth c C hr hlk
  show At p l e rm_X12_nameAt s m args below meth c 0 0 g 5 (MQ below (QI g s.heap.size res σ inR) args s 0 0 (AA g s.heap.size)) 0 [(0, vr g 94), (1, vi v1), (2, vi v2), (3, vi v3)] [] σ
  unfold F_X12_nameAt at hF
  refine at_iconst (pc := 0) C dX12_nameAt_0 ?_
  refine at_istore (pc := 1) (lv' := [(4, vi 0), (0, vr g 94), (1, vi v1), (2, vi v2), (3, vi v3)]) C dX12_nameAt_1 (Nat.le_of_ble_eq_true rfl) rfl ?_
  have L3 : ∀ (v1 : Int) (v2 : Int) (v3 : Int) (v4 : Int), inR v1 → inR v2 → inR v3 → inR v4 → loopK (fun q nx3 => F_X12_nameAt_B3 N  nx3 v1 v2 v3 q σ) N v4 = some res → At p l e rm_X12_nameAt s m args below meth c 0 0 g 5 (MQ below (QI g s.heap.size res σ inR) args s 0 0 (AA g s.heap.size)) 3 [(0, vr g 94), (1, vi v1), (2, vi v2), (3, vi v3), (4, vi v4)] [] σ := by
    intro v1 v2 v3 v4 h1 h2 h3 h4 hF
    refine loopK_ind (res := res) (P := fun (q : Int) => inR q → At p l e rm_X12_nameAt s m args below meth c 0 0 g 5 (MQ below (QI g s.heap.size res σ inR) args s 0 0 (AA g s.heap.size)) 3 [(0, vr g 94), (1, vi v1), (2, vi v2), (3, vi v3), (4, vi q)] [] σ) ?_ N _ hF h4
    intro nx3 v4 ih3 hF h4
    have hF : F_X12_nameAt_B3 N  nx3 v1 v2 v3 v4 σ = some res := hF
    unfold F_X12_nameAt_B3 at hF
    refine at_iload (pc := 3) C 4 dX12_nameAt_3 rfl ?_
    refine at_iload_n (pc := 5) C 3 dX12_nameAt_5 rfl rfl ?_
    refine at_icmp_ge (pc := 6) (tgt := 33) C h4 h3 dX12_nameAt_6 rfl (fun c1 => ?_) (fun c1 => ?_)
    · have hF := (if_pos c1).symm.trans hF
      refine at_iconst (pc := 33) C dX12_nameAt_33 ?_
      obtain rfl := Option.some.inj hF
      exact at_iret (pc := 34) C hr hlk (show inR (-1) from ⟨by decide, by decide⟩) ok dX12_nameAt_34
    · have hF := (if_neg c1).symm.trans hF
      refine at_aload_n (pc := 9) C 0 dX12_nameAt_9 rfl rfl ?_
      refine at_getr (pc := 10) (k' := 97) C 3 fw_12_20 kd94 rfl (Nat.le_of_ble_eq_true rfl) rfl rfl dX12_nameAt_10 ?_
      refine at_iload_n (pc := 13) C 2 dX12_nameAt_13 rfl rfl ?_
      refine at_iconst (pc := 14) C dX12_nameAt_14 ?_
      refine at_iload (pc := 15) C 4 dX12_nameAt_15 rfl ?_
      refine at_imul (pc := 17) C dX12_nameAt_17 ?_
      refine at_iadd (pc := 18) C dX12_nameAt_18 ?_
      obtain ⟨b2, hF⟩ := inb_some hF
      refine at_iaload (pc := 19) C kd97 b2 dX12_nameAt_19 ?_
      refine at_iload_n (pc := 20) C 1 dX12_nameAt_20 rfl rfl ?_
      refine at_icmp_ne (pc := 21) (tgt := 27) C (ok 97 (ja v2 (jm 3 v4))) h1 dX12_nameAt_21 rfl (fun c3 => ?_) (fun c3 => ?_)
      · have hF := (if_neg c3).symm.trans hF
        refine at_iinc (pc := 27) (lv' := [(4, vi (ja v4 1)), (0, vr g 94), (1, vi v1), (2, vi v2), (3, vi v3)]) C 4 dX12_nameAt_27 rfl (Nat.le_of_ble_eq_true rfl) rfl ?_
        refine at_goto (pc := 30) (tgt := 3) C dX12_nameAt_30 rfl ?_
        refine at_sub (lv' := [(0, vr g 94), (1, vi v1), (2, vi v2), (3, vi v3), (4, vi (ja v4 1))]) [1, 2, 3, 4, 0] rfl ?_
        exact ih3 _ hF (ja_R v4 1)
      · have hF := (if_pos c3).symm.trans hF
        refine at_iload (pc := 24) C 4 dX12_nameAt_24 rfl ?_
        obtain rfl := Option.some.inj hF
        exact at_iret (pc := 26) C hr hlk h4 ok dX12_nameAt_26
  refine at_sub (lv' := [(0, vr g 94), (1, vi v1), (2, vi v2), (3, vi v3), (4, vi 0)]) [1, 2, 3, 4, 0] rfl ?_
  exact L3 v1 v2 v3 0 h1 h2 h3 (isB.r (Or.inl rfl)) hF
abbrev rm_X12_signed : Room := { frames := 2, cells := 0, slots := 0, locals := 47 }
def F_X12_signed_J23 (N : Nat)  (v1 : Int) (v2 : Int) (σ : Sto) : Option (Int × Sto) :=
  (F_X12_isIn N (σ.1 94 9) v1 v2 σ).bind (fun q1 => if q1 = 0 then ((F_X12_wrong N 2 σ).bind (fun q4 => some (q4.1, q4.2))) else ((F_X12_token N (upI σ 94 22 (σ.1 94 9))).bind (fun q3 => some (1, q3))))
def F_X12_signed (N : Nat) (v1 : Int) (v2 : Int) (σ : Sto) : Option (Int × Sto) :=
  if (σ.1 94 8) = 3 then (F_X12_signed_J23 N  v1 v2 σ) else (if (σ.1 94 8) = 6 then (F_X12_signed_J23 N  v1 v2 σ) else ((F_X12_wrong N 1 σ).bind (fun q7 => some (q7.1, q7.2))))
set_option maxHeartbeats 4000000 in
set_option maxRecDepth 100000 in
theorem c_X12_signed (l : Launch) (g : Geo) (N : Nat) (v1 : Int) (v2 : Int) (σ : Sto) (res : Int × Sto) (h1 : inR v1) (h2 : inR v2) (ok : OK σ) (hF : F_X12_signed N v1 v2 σ = some res) : MtI l g yX12_signed cX12_signed 3 (some .boolean) rm_X12_signed [vr g 94, vi v1, vi v2] σ res.1 res.2 isB := by
  intro sz
  refine Met.ofAt (own := RX12) (QQ := fun z => QI g z res.1 res.2 isB) (by decide +kernel) (Nat.le_of_ble_eq_true rfl) rfl ?_
  intro p e s m args below meth c C hr hlk
  show At p l e rm_X12_signed s m args below meth c 0 0 g 3 (MQ below (QI g s.heap.size res.1 res.2 isB) args s 0 0 (AA g s.heap.size)) 0 [(0, vr g 94), (1, vi v1), (2, vi v2)] [] σ
  unfold F_X12_signed at hF
  have J23 : ∀ (v1 : Int) (v2 : Int) (σ : Sto), inR v1 → inR v2 → OK σ → F_X12_signed_J23 N  v1 v2 σ = some res → At p l e rm_X12_signed s m args below meth c 0 0 g 3 (MQ below (QI g s.heap.size res.1 res.2 isB) args s 0 0 (AA g s.heap.size)) 23 [(0, vr g 94), (1, vi v1), (2, vi v2)] [] σ := by
    intro v1 v2 σ h1 h2 ok hF
    unfold F_X12_signed_J23 at hF
    refine at_aload_n (pc := 23) C 0 dX12_signed_23 rfl rfl ?_
    refine at_geti (pc := 24) (jz := 9) C fw_12_110 kd94 rfl (Nat.le_of_ble_eq_true rfl) rfl rfl dX12_signed_24 ?_
    refine at_iload_n (pc := 27) C 1 dX12_signed_27 rfl rfl ?_
    refine at_iload_n (pc := 28) C 2 dX12_signed_28 rfl rfl ?_
    obtain ⟨q1, eq1, hF⟩ := bind_some' hF
    refine at_callS (pc := 29) C (c_X12_isIn l g N (σ.1 94 9) v1 v2 σ q1 (ok 94 9) h1 h2 ok eq1) ks_X12_isIn w1525 rfl rfl (Nat.le_of_ble_eq_true rfl) ⟨rfl, rfl, (Nat.le_of_ble_eq_true rfl), (Nat.le_of_ble_eq_true rfl)⟩ dX12_signed_29 (fun tq1 okq1 => ?_)
    refine at_if_ne (pc := 32) (tgt := 41) C (isB.r tq1) dX12_signed_32 rfl (fun c2 => ?_) (fun c2 => ?_)
    · have hF := (if_neg c2).symm.trans hF
      refine at_aload_n (pc := 41) C 0 dX12_signed_41 rfl rfl ?_
      refine at_aload_n (pc := 42) C 0 dX12_signed_42 rfl rfl ?_
      refine at_geti (pc := 43) (jz := 9) C fw_12_110 kd94 rfl (Nat.le_of_ble_eq_true rfl) rfl rfl dX12_signed_43 ?_
      refine at_puti (pc := 46) (jz := 22) C fu_12_169 kd94 rfl (Nat.le_of_ble_eq_true rfl) rfl rfl dX12_signed_46 ?_
      refine at_aload_n (pc := 49) C 0 dX12_signed_49 rfl rfl ?_
      obtain ⟨q3, eq3, hF⟩ := bind_some' hF
      refine at_callVv (pc := 50) (ci := 12) C (c_X12_token l g N  (upI σ 94 22 (σ.1 94 9)) q3  (OK_up (k := 94) (j := 22) ok (ok 94 9)) eq3) kv_X12_token w1480 kd94 rfl rfl rfl rfl (Nat.le_of_ble_eq_true rfl) ⟨rfl, rfl, (Nat.le_of_ble_eq_true rfl), (Nat.le_of_ble_eq_true rfl)⟩ dX12_signed_50 (fun okq3 => ?_)
      refine at_iconst (pc := 53) C dX12_signed_53 ?_
      obtain rfl := Option.some.inj hF
      exact at_zret (pc := 54) C hr hlk (Or.inr rfl) okq3 dX12_signed_54
    · have hF := (if_pos c2).symm.trans hF
      refine at_aload_n (pc := 35) C 0 dX12_signed_35 rfl rfl ?_
      refine at_iconst (pc := 36) C dX12_signed_36 ?_
      obtain ⟨q4, eq4, hF⟩ := bind_some' hF
      refine at_callV (pc := 37) (ci := 12) C (c_X12_wrong l g N 2 σ q4 (show inR 2 from ⟨by decide, by decide⟩) ok eq4) kv_X12_wrong w1505 kd94 rfl rfl rfl rfl (Nat.le_of_ble_eq_true rfl) ⟨rfl, rfl, (Nat.le_of_ble_eq_true rfl), (Nat.le_of_ble_eq_true rfl)⟩ dX12_signed_37 (fun tq4 okq4 => ?_)
      obtain rfl := Option.some.inj hF
      exact at_zret (pc := 40) C hr hlk tq4 okq4 dX12_signed_40
  refine at_aload_n (pc := 0) C 0 dX12_signed_0 rfl rfl ?_
  refine at_geti (pc := 1) (jz := 8) C fw_12_99 kd94 rfl (Nat.le_of_ble_eq_true rfl) rfl rfl dX12_signed_1 ?_
  refine at_iconst (pc := 4) C dX12_signed_4 ?_
  refine at_icmp_eq (pc := 5) (tgt := 23) C (ok 94 8) (show inR 3 from ⟨by decide, by decide⟩) dX12_signed_5 rfl (fun c5 => ?_) (fun c5 => ?_)
  · have hF := (if_pos c5).symm.trans hF
    exact J23 v1 v2 σ h1 h2 ok hF
  · have hF := (if_neg c5).symm.trans hF
    refine at_aload_n (pc := 8) C 0 dX12_signed_8 rfl rfl ?_
    refine at_geti (pc := 9) (jz := 8) C fw_12_99 kd94 rfl (Nat.le_of_ble_eq_true rfl) rfl rfl dX12_signed_9 ?_
    refine at_bipush (pc := 12) C dX12_signed_12 (by decide) ?_
    refine at_icmp_eq (pc := 14) (tgt := 23) C (ok 94 8) (show inR 6 from ⟨by decide, by decide⟩) dX12_signed_14 rfl (fun c6 => ?_) (fun c6 => ?_)
    · have hF := (if_pos c6).symm.trans hF
      exact J23 v1 v2 σ h1 h2 ok hF
    · have hF := (if_neg c6).symm.trans hF
      refine at_aload_n (pc := 17) C 0 dX12_signed_17 rfl rfl ?_
      refine at_iconst (pc := 18) C dX12_signed_18 ?_
      obtain ⟨q7, eq7, hF⟩ := bind_some' hF
      refine at_callV (pc := 19) (ci := 12) C (c_X12_wrong l g N 1 σ q7 (isB.r (Or.inr rfl)) ok eq7) kv_X12_wrong w1505 kd94 rfl rfl rfl rfl (Nat.le_of_ble_eq_true rfl) ⟨rfl, rfl, (Nat.le_of_ble_eq_true rfl), (Nat.le_of_ble_eq_true rfl)⟩ dX12_signed_19 (fun tq7 okq7 => ?_)
      obtain rfl := Option.some.inj hF
      exact at_zret (pc := 22) C hr hlk tq7 okq7 dX12_signed_22
abbrev rm_X12_number : Room := { frames := 3, cells := 0, slots := 0, locals := 69 }
def F_X12_number (N : Nat) (v1 : Int) (v2 : Int) (σ : Sto) : Option (Int × Sto) :=
  if (σ.1 94 8) = 3 then ((F_X12_signed N v1 v2 σ).bind (fun q3 => some (q3.1, q3.2))) else ((F_X12_wrong N 1 σ).bind (fun q2 => some (q2.1, q2.2)))
set_option maxHeartbeats 4000000 in
set_option maxRecDepth 100000 in
theorem c_X12_number (l : Launch) (g : Geo) (N : Nat) (v1 : Int) (v2 : Int) (σ : Sto) (res : Int × Sto) (h1 : inR v1) (h2 : inR v2) (ok : OK σ) (hF : F_X12_number N v1 v2 σ = some res) : MtI l g yX12_number cX12_number 3 (some .boolean) rm_X12_number [vr g 94, vi v1, vi v2] σ res.1 res.2 isB := by
  intro sz
  refine Met.ofAt (own := RX12) (QQ := fun z => QI g z res.1 res.2 isB) (by decide +kernel) (Nat.le_of_ble_eq_true rfl) rfl ?_
  intro p e s m args below meth c C hr hlk
  show At p l e rm_X12_number s m args below meth c 0 0 g 3 (MQ below (QI g s.heap.size res.1 res.2 isB) args s 0 0 (AA g s.heap.size)) 0 [(0, vr g 94), (1, vi v1), (2, vi v2)] [] σ
  unfold F_X12_number at hF
  refine at_aload_n (pc := 0) C 0 dX12_number_0 rfl rfl ?_
  refine at_geti (pc := 1) (jz := 8) C fw_12_99 kd94 rfl (Nat.le_of_ble_eq_true rfl) rfl rfl dX12_number_1 ?_
  refine at_iconst (pc := 4) C dX12_number_4 ?_
  refine at_icmp_ne (pc := 5) (tgt := 17) C (ok 94 8) (show inR 3 from ⟨by decide, by decide⟩) dX12_number_5 rfl (fun c1 => ?_) (fun c1 => ?_)
  · have hF := (if_neg c1).symm.trans hF
    refine at_aload_n (pc := 17) C 0 dX12_number_17 rfl rfl ?_
    refine at_iconst (pc := 18) C dX12_number_18 ?_
    obtain ⟨q2, eq2, hF⟩ := bind_some' hF
    refine at_callV (pc := 19) (ci := 12) C (c_X12_wrong l g N 1 σ q2 (isB.r (Or.inr rfl)) ok eq2) kv_X12_wrong w1505 kd94 rfl rfl rfl rfl (Nat.le_of_ble_eq_true rfl) ⟨rfl, rfl, (Nat.le_of_ble_eq_true rfl), (Nat.le_of_ble_eq_true rfl)⟩ dX12_number_19 (fun tq2 okq2 => ?_)
    obtain rfl := Option.some.inj hF
    exact at_zret (pc := 22) C hr hlk tq2 okq2 dX12_number_22
  · have hF := (if_pos c1).symm.trans hF
    refine at_aload_n (pc := 8) C 0 dX12_number_8 rfl rfl ?_
    refine at_iload_n (pc := 9) C 1 dX12_number_9 rfl rfl ?_
    refine at_iload_n (pc := 10) C 2 dX12_number_10 rfl rfl ?_
    obtain ⟨q3, eq3, hF⟩ := bind_some' hF
    refine at_callV (pc := 11) (ci := 12) C (c_X12_signed l g N v1 v2 σ q3 h1 h2 ok eq3) kv_X12_signed w1521 kd94 rfl rfl rfl rfl (Nat.le_of_ble_eq_true rfl) ⟨rfl, rfl, (Nat.le_of_ble_eq_true rfl), (Nat.le_of_ble_eq_true rfl)⟩ dX12_number_11 (fun tq3 okq3 => ?_)
    refine at_goto (pc := 14) (tgt := 22) C dX12_number_14 rfl ?_
    obtain rfl := Option.some.inj hF
    exact at_zret (pc := 22) C hr hlk tq3 okq3 dX12_number_22
abbrev rm_X12_memberRead : Room := { frames := 2, cells := 0, slots := 0, locals := 47 }
def F_X12_memberRead_J51 (N : Nat)   (σ : Sto) : Option (Int × Sto) :=
  some (1, σ)
def F_X12_memberRead (N : Nat)  (σ : Sto) : Option (Int × Sto) :=
  (F_X12_token N σ).bind (fun q1 => if (q1.1 94 8) = 2 then ((F_X12_nameAt N (q1.1 94 9) 24 (q1.1 94 12) q1).bind (fun q3 => if 0 ≤ ((upI q1 94 22 q3).1 94 22) then (F_X12_memberRead_J51 N   (upI q1 94 22 q3)) else ((F_X12_wrong N 4 (upI q1 94 22 q3)).bind (fun q5 => if q5.1 = 0 then (some (0, q5.2)) else (F_X12_memberRead_J51 N   q5.2))))) else ((F_X12_wrong N 1 q1).bind (fun q7 => some (q7.1, q7.2))))
set_option maxHeartbeats 4000000 in
set_option maxRecDepth 100000 in
theorem c_X12_memberRead (l : Launch) (g : Geo) (N : Nat)  (σ : Sto) (res : Int × Sto)  (ok : OK σ) (hF : F_X12_memberRead N  σ = some res) : MtI l g yX12_memberRead cX12_memberRead 1 (some .boolean) rm_X12_memberRead [vr g 94] σ res.1 res.2 isB := by
  intro sz
  refine Met.ofAt (own := RX12) (QQ := fun z => QI g z res.1 res.2 isB) (by decide +kernel) (Nat.le_of_ble_eq_true rfl) rfl ?_
  intro p e s m args below meth c C hr hlk
  show At p l e rm_X12_memberRead s m args below meth c 0 0 g 1 (MQ below (QI g s.heap.size res.1 res.2 isB) args s 0 0 (AA g s.heap.size)) 0 [(0, vr g 94)] [] σ
  unfold F_X12_memberRead at hF
  refine at_aload_n (pc := 0) C 0 dX12_memberRead_0 rfl rfl ?_
  obtain ⟨q1, eq1, hF⟩ := bind_some' hF
  refine at_callVv (pc := 1) (ci := 12) C (c_X12_token l g N  σ q1  ok eq1) kv_X12_token w1480 kd94 rfl rfl rfl rfl (Nat.le_of_ble_eq_true rfl) ⟨rfl, rfl, (Nat.le_of_ble_eq_true rfl), (Nat.le_of_ble_eq_true rfl)⟩ dX12_memberRead_1 (fun okq1 => ?_)
  refine at_aload_n (pc := 4) C 0 dX12_memberRead_4 rfl rfl ?_
  refine at_geti (pc := 5) (jz := 8) C fw_12_99 kd94 rfl (Nat.le_of_ble_eq_true rfl) rfl rfl dX12_memberRead_5 ?_
  refine at_iconst (pc := 8) C dX12_memberRead_8 ?_
  refine at_icmp_eq (pc := 9) (tgt := 18) C (okq1 94 8) (show inR 2 from ⟨by decide, by decide⟩) dX12_memberRead_9 rfl (fun c2 => ?_) (fun c2 => ?_)
  · have hF := (if_pos c2).symm.trans hF
    have J51 : ∀  (σ : Sto), OK σ → F_X12_memberRead_J51 N   σ = some res → At p l e rm_X12_memberRead s m args below meth c 0 0 g 1 (MQ below (QI g s.heap.size res.1 res.2 isB) args s 0 0 (AA g s.heap.size)) 51 [] [] σ := by
      intro σ ok hF
      unfold F_X12_memberRead_J51 at hF
      refine at_iconst (pc := 51) C dX12_memberRead_51 ?_
      refine at_goto (pc := 52) (tgt := 56) C dX12_memberRead_52 rfl ?_
      obtain rfl := Option.some.inj hF
      exact at_zret (pc := 56) C hr hlk (Or.inr rfl) ok dX12_memberRead_56
    refine at_aload_n (pc := 18) C 0 dX12_memberRead_18 rfl rfl ?_
    refine at_aload_n (pc := 19) C 0 dX12_memberRead_19 rfl rfl ?_
    refine at_aload_n (pc := 20) C 0 dX12_memberRead_20 rfl rfl ?_
    refine at_geti (pc := 21) (jz := 9) C fw_12_110 kd94 rfl (Nat.le_of_ble_eq_true rfl) rfl rfl dX12_memberRead_21 ?_
    refine at_bipush (pc := 24) C dX12_memberRead_24 (by decide) ?_
    refine at_aload_n (pc := 26) C 0 dX12_memberRead_26 rfl rfl ?_
    refine at_geti (pc := 27) (jz := 12) C fw_12_120 kd94 rfl (Nat.le_of_ble_eq_true rfl) rfl rfl dX12_memberRead_27 ?_
    obtain ⟨q3, eq3, hF⟩ := bind_some' hF
    refine at_callV (pc := 30) (ci := 12) C (c_X12_nameAt l g N (q1.1 94 9) 24 (q1.1 94 12) q1 q3 (okq1 94 9) (show inR 24 from ⟨by decide, by decide⟩) (okq1 94 12) okq1 eq3) kv_X12_nameAt w1513 kd94 rfl rfl rfl rfl (Nat.le_of_ble_eq_true rfl) ⟨rfl, rfl, (Nat.le_of_ble_eq_true rfl), (Nat.le_of_ble_eq_true rfl)⟩ dX12_memberRead_30 (fun tq3 okq3 => ?_)
    refine at_puti (pc := 33) (jz := 22) C fu_12_169 kd94 rfl (Nat.le_of_ble_eq_true rfl) rfl rfl dX12_memberRead_33 ?_
    refine at_aload_n (pc := 36) C 0 dX12_memberRead_36 rfl rfl ?_
    refine at_geti (pc := 37) (jz := 22) C fw_12_169 kd94 rfl (Nat.le_of_ble_eq_true rfl) rfl rfl dX12_memberRead_37 ?_
    refine at_if_ge (pc := 40) (tgt := 51) C ((OK_up (k := 94) (j := 22) okq1 tq3) 94 22) dX12_memberRead_40 rfl (fun c4 => ?_) (fun c4 => ?_)
    · have hF := (if_pos c4).symm.trans hF
      refine at_sub (lv' := []) [] rfl ?_
      exact J51 (upI q1 94 22 q3) (OK_up (k := 94) (j := 22) okq1 tq3) hF
    · have hF := (if_neg c4).symm.trans hF
      refine at_aload_n (pc := 43) C 0 dX12_memberRead_43 rfl rfl ?_
      refine at_iconst (pc := 44) C dX12_memberRead_44 ?_
      obtain ⟨q5, eq5, hF⟩ := bind_some' hF
      refine at_callV (pc := 45) (ci := 12) C (c_X12_wrong l g N 4 (upI q1 94 22 q3) q5 (show inR 4 from ⟨by decide, by decide⟩) (OK_up (k := 94) (j := 22) okq1 tq3) eq5) kv_X12_wrong w1505 kd94 rfl rfl rfl rfl (Nat.le_of_ble_eq_true rfl) ⟨rfl, rfl, (Nat.le_of_ble_eq_true rfl), (Nat.le_of_ble_eq_true rfl)⟩ dX12_memberRead_45 (fun tq5 okq5 => ?_)
      refine at_if_eq (pc := 48) (tgt := 55) C (isB.r tq5) dX12_memberRead_48 rfl (fun c6 => ?_) (fun c6 => ?_)
      · have hF := (if_pos c6).symm.trans hF
        refine at_iconst (pc := 55) C dX12_memberRead_55 ?_
        obtain rfl := Option.some.inj hF
        exact at_zret (pc := 56) C hr hlk (Or.inl rfl) okq5 dX12_memberRead_56
      · have hF := (if_neg c6).symm.trans hF
        refine at_sub (lv' := []) [] rfl ?_
        exact J51 q5.2 okq5 hF
  · have hF := (if_neg c2).symm.trans hF
    refine at_aload_n (pc := 12) C 0 dX12_memberRead_12 rfl rfl ?_
    refine at_iconst (pc := 13) C dX12_memberRead_13 ?_
    obtain ⟨q7, eq7, hF⟩ := bind_some' hF
    refine at_callV (pc := 14) (ci := 12) C (c_X12_wrong l g N 1 q1 q7 (isB.r (Or.inr rfl)) okq1 eq7) kv_X12_wrong w1505 kd94 rfl rfl rfl rfl (Nat.le_of_ble_eq_true rfl) ⟨rfl, rfl, (Nat.le_of_ble_eq_true rfl), (Nat.le_of_ble_eq_true rfl)⟩ dX12_memberRead_14 (fun tq7 okq7 => ?_)
    obtain rfl := Option.some.inj hF
    exact at_zret (pc := 17) C hr hlk tq7 okq7 dX12_memberRead_17
abbrev rm_X12_memberLine : Room := { frames := 4, cells := 0, slots := 0, locals := 91 }
def F_X12_memberLine (N : Nat)  (σ : Sto) : Option (Int × Sto) :=
  if (σ.1 94 12) = 8 then ((F_X12_wrong N 2 σ).bind (fun q16 => some (q16.1, q16.2))) else ((F_X12_token N σ).bind (fun q2 => if (q2.1 94 8) = 2 then ((F_X12_nameAt N (q2.1 94 9) 24 (q2.1 94 12) q2).bind (fun q4 => if q4 < 0 then (inb (ja 24 (jm 3 (q2.1 94 12))) 48 ((F_X12_token N (upI q2 97 (ja 24 (jm 3 (q2.1 94 12))) (q2.1 94 9))).bind (fun q7 => (F_X12_number N 0 99 q7).bind (fun q8 => if q8.1 = 0 then (some (0, q8.2)) else (inb (ja (ja 24 (jm 3 (q2.1 94 12))) 1) 48 ((F_X12_number N 0 99 (upI q8.2 97 (ja (ja 24 (jm 3 (q2.1 94 12))) 1) (q8.2.1 94 22))).bind (fun q11 => if q11.1 = 0 then (some (0, q11.2)) else (inb (ja (ja 24 (jm 3 (q2.1 94 12))) 2) 48 (some (1, (upI (upI q11.2 97 (ja (ja 24 (jm 3 (q2.1 94 12))) 2) (q11.2.1 94 22)) 94 12 (ja ((upI q11.2 97 (ja (ja 24 (jm 3 (q2.1 94 12))) 2) (q11.2.1 94 22)).1 94 12) 1)))))))))))) else ((F_X12_wrong N 3 q2).bind (fun q14 => some (q14.1, q14.2))))) else ((F_X12_wrong N 1 q2).bind (fun q15 => some (q15.1, q15.2)))))
set_option maxHeartbeats 4000000 in
set_option maxRecDepth 100000 in
theorem c_X12_memberLine (l : Launch) (g : Geo) (N : Nat)  (σ : Sto) (res : Int × Sto)  (ok : OK σ) (hF : F_X12_memberLine N  σ = some res) : MtI l g yX12_memberLine cX12_memberLine 2 (some .boolean) rm_X12_memberLine [vr g 94] σ res.1 res.2 isB := by
  intro sz
  refine Met.ofAt (own := RX12) (QQ := fun z => QI g z res.1 res.2 isB) (by decide +kernel) (Nat.le_of_ble_eq_true rfl) rfl ?_
  intro p e s m args below meth c C hr hlk
  show At p l e rm_X12_memberLine s m args below meth c 0 0 g 2 (MQ below (QI g s.heap.size res.1 res.2 isB) args s 0 0 (AA g s.heap.size)) 0 [(0, vr g 94)] [] σ
  unfold F_X12_memberLine at hF
  refine at_aload_n (pc := 0) C 0 dX12_memberLine_0 rfl rfl ?_
  refine at_geti (pc := 1) (jz := 12) C fw_12_120 kd94 rfl (Nat.le_of_ble_eq_true rfl) rfl rfl dX12_memberLine_1 ?_
  refine at_bipush (pc := 4) C dX12_memberLine_4 (by decide) ?_
  refine at_icmp_ne (pc := 6) (tgt := 15) C (ok 94 12) (show inR 8 from ⟨by decide, by decide⟩) dX12_memberLine_6 rfl (fun c1 => ?_) (fun c1 => ?_)
  · have hF := (if_neg c1).symm.trans hF
    refine at_aload_n (pc := 15) C 0 dX12_memberLine_15 rfl rfl ?_
    obtain ⟨q2, eq2, hF⟩ := bind_some' hF
    refine at_callVv (pc := 16) (ci := 12) C (c_X12_token l g N  σ q2  ok eq2) kv_X12_token w1480 kd94 rfl rfl rfl rfl (Nat.le_of_ble_eq_true rfl) ⟨rfl, rfl, (Nat.le_of_ble_eq_true rfl), (Nat.le_of_ble_eq_true rfl)⟩ dX12_memberLine_16 (fun okq2 => ?_)
    refine at_aload_n (pc := 19) C 0 dX12_memberLine_19 rfl rfl ?_
    refine at_geti (pc := 20) (jz := 8) C fw_12_99 kd94 rfl (Nat.le_of_ble_eq_true rfl) rfl rfl dX12_memberLine_20 ?_
    refine at_iconst (pc := 23) C dX12_memberLine_23 ?_
    refine at_icmp_eq (pc := 24) (tgt := 33) C (okq2 94 8) (show inR 2 from ⟨by decide, by decide⟩) dX12_memberLine_24 rfl (fun c3 => ?_) (fun c3 => ?_)
    · have hF := (if_pos c3).symm.trans hF
      refine at_aload_n (pc := 33) C 0 dX12_memberLine_33 rfl rfl ?_
      refine at_aload_n (pc := 34) C 0 dX12_memberLine_34 rfl rfl ?_
      refine at_geti (pc := 35) (jz := 9) C fw_12_110 kd94 rfl (Nat.le_of_ble_eq_true rfl) rfl rfl dX12_memberLine_35 ?_
      refine at_bipush (pc := 38) C dX12_memberLine_38 (by decide) ?_
      refine at_aload_n (pc := 40) C 0 dX12_memberLine_40 rfl rfl ?_
      refine at_geti (pc := 41) (jz := 12) C fw_12_120 kd94 rfl (Nat.le_of_ble_eq_true rfl) rfl rfl dX12_memberLine_41 ?_
      obtain ⟨q4, eq4, hF⟩ := bind_some' hF
      refine at_callV (pc := 44) (ci := 12) C (c_X12_nameAt l g N (q2.1 94 9) 24 (q2.1 94 12) q2 q4 (okq2 94 9) (show inR 24 from ⟨by decide, by decide⟩) (okq2 94 12) okq2 eq4) kv_X12_nameAt w1513 kd94 rfl rfl rfl rfl (Nat.le_of_ble_eq_true rfl) ⟨rfl, rfl, (Nat.le_of_ble_eq_true rfl), (Nat.le_of_ble_eq_true rfl)⟩ dX12_memberLine_44 (fun tq4 okq4 => ?_)
      refine at_if_lt (pc := 47) (tgt := 56) C tq4 dX12_memberLine_47 rfl (fun c5 => ?_) (fun c5 => ?_)
      · have hF := (if_pos c5).symm.trans hF
        refine at_bipush (pc := 56) C dX12_memberLine_56 (by decide) ?_
        refine at_iconst (pc := 58) C dX12_memberLine_58 ?_
        refine at_aload_n (pc := 59) C 0 dX12_memberLine_59 rfl rfl ?_
        refine at_geti (pc := 60) (jz := 12) C fw_12_120 kd94 rfl (Nat.le_of_ble_eq_true rfl) rfl rfl dX12_memberLine_60 ?_
        refine at_imul (pc := 63) C dX12_memberLine_63 ?_
        refine at_iadd (pc := 64) C dX12_memberLine_64 ?_
        refine at_istore_n (pc := 65) (lv' := [(1, vi (ja 24 (jm 3 (q2.1 94 12)))), (0, vr g 94)]) C dX12_memberLine_65 rfl (Nat.le_of_ble_eq_true rfl) rfl ?_
        refine at_aload_n (pc := 66) C 1 dX12_memberLine_66 rfl rfl ?_
        refine at_getr (pc := 67) (k' := 97) C 3 fw_12_20 kd94 rfl (Nat.le_of_ble_eq_true rfl) rfl rfl dX12_memberLine_67 ?_
        refine at_iload_n (pc := 70) C 0 dX12_memberLine_70 rfl rfl ?_
        refine at_aload_n (pc := 71) C 1 dX12_memberLine_71 rfl rfl ?_
        refine at_geti (pc := 72) (jz := 9) C fw_12_110 kd94 rfl (Nat.le_of_ble_eq_true rfl) rfl rfl dX12_memberLine_72 ?_
        obtain ⟨b6, hF⟩ := inb_some hF
        refine at_iastore (pc := 75) C kd97 b6 dX12_memberLine_75 ?_
        refine at_aload_n (pc := 76) C 1 dX12_memberLine_76 rfl rfl ?_
        obtain ⟨q7, eq7, hF⟩ := bind_some' hF
        refine at_callVv (pc := 77) (ci := 12) C (c_X12_token l g N  (upI q2 97 (ja 24 (jm 3 (q2.1 94 12))) (q2.1 94 9)) q7  (OK_up (k := 97) (j := (ja 24 (jm 3 (q2.1 94 12)))) okq2 (okq2 94 9)) eq7) kv_X12_token w1480 kd94 rfl rfl rfl rfl (Nat.le_of_ble_eq_true rfl) ⟨rfl, rfl, (Nat.le_of_ble_eq_true rfl), (Nat.le_of_ble_eq_true rfl)⟩ dX12_memberLine_77 (fun okq7 => ?_)
        refine at_aload_n (pc := 80) C 1 dX12_memberLine_80 rfl rfl ?_
        refine at_iconst (pc := 81) C dX12_memberLine_81 ?_
        refine at_bipush (pc := 82) C dX12_memberLine_82 (by decide) ?_
        obtain ⟨q8, eq8, hF⟩ := bind_some' hF
        refine at_callV (pc := 84) (ci := 12) C (c_X12_number l g N 0 99 q7 q8 (isB.r (Or.inl rfl)) (show inR 99 from ⟨by decide, by decide⟩) okq7 eq8) kv_X12_number w1517 kd94 rfl rfl rfl rfl (Nat.le_of_ble_eq_true rfl) ⟨rfl, rfl, (Nat.le_of_ble_eq_true rfl), (Nat.le_of_ble_eq_true rfl)⟩ dX12_memberLine_84 (fun tq8 okq8 => ?_)
        refine at_if_ne (pc := 87) (tgt := 92) C (isB.r tq8) dX12_memberLine_87 rfl (fun c9 => ?_) (fun c9 => ?_)
        · have hF := (if_neg c9).symm.trans hF
          refine at_aload_n (pc := 92) C 1 dX12_memberLine_92 rfl rfl ?_
          refine at_getr (pc := 93) (k' := 97) C 3 fw_12_20 kd94 rfl (Nat.le_of_ble_eq_true rfl) rfl rfl dX12_memberLine_93 ?_
          refine at_iload_n (pc := 96) C 0 dX12_memberLine_96 rfl rfl ?_
          refine at_iconst (pc := 97) C dX12_memberLine_97 ?_
          refine at_iadd (pc := 98) C dX12_memberLine_98 ?_
          refine at_aload_n (pc := 99) C 1 dX12_memberLine_99 rfl rfl ?_
          refine at_geti (pc := 100) (jz := 22) C fw_12_169 kd94 rfl (Nat.le_of_ble_eq_true rfl) rfl rfl dX12_memberLine_100 ?_
          obtain ⟨b10, hF⟩ := inb_some hF
          refine at_iastore (pc := 103) C kd97 b10 dX12_memberLine_103 ?_
          refine at_aload_n (pc := 104) C 1 dX12_memberLine_104 rfl rfl ?_
          refine at_iconst (pc := 105) C dX12_memberLine_105 ?_
          refine at_bipush (pc := 106) C dX12_memberLine_106 (by decide) ?_
          obtain ⟨q11, eq11, hF⟩ := bind_some' hF
          refine at_callV (pc := 108) (ci := 12) C (c_X12_number l g N 0 99 (upI q8.2 97 (ja (ja 24 (jm 3 (q2.1 94 12))) 1) (q8.2.1 94 22)) q11 (isB.r (Or.inl rfl)) (show inR 99 from ⟨by decide, by decide⟩) (OK_up (k := 97) (j := (ja (ja 24 (jm 3 (q2.1 94 12))) 1)) okq8 (okq8 94 22)) eq11) kv_X12_number w1517 kd94 rfl rfl rfl rfl (Nat.le_of_ble_eq_true rfl) ⟨rfl, rfl, (Nat.le_of_ble_eq_true rfl), (Nat.le_of_ble_eq_true rfl)⟩ dX12_memberLine_108 (fun tq11 okq11 => ?_)
          refine at_if_ne (pc := 111) (tgt := 116) C (isB.r tq11) dX12_memberLine_111 rfl (fun c12 => ?_) (fun c12 => ?_)
          · have hF := (if_neg c12).symm.trans hF
            refine at_aload_n (pc := 116) C 1 dX12_memberLine_116 rfl rfl ?_
            refine at_getr (pc := 117) (k' := 97) C 3 fw_12_20 kd94 rfl (Nat.le_of_ble_eq_true rfl) rfl rfl dX12_memberLine_117 ?_
            refine at_iload_n (pc := 120) C 0 dX12_memberLine_120 rfl rfl ?_
            refine at_iconst (pc := 121) C dX12_memberLine_121 ?_
            refine at_iadd (pc := 122) C dX12_memberLine_122 ?_
            refine at_aload_n (pc := 123) C 1 dX12_memberLine_123 rfl rfl ?_
            refine at_geti (pc := 124) (jz := 22) C fw_12_169 kd94 rfl (Nat.le_of_ble_eq_true rfl) rfl rfl dX12_memberLine_124 ?_
            obtain ⟨b13, hF⟩ := inb_some hF
            refine at_iastore (pc := 127) C kd97 b13 dX12_memberLine_127 ?_
            refine at_aload_n (pc := 128) C 1 dX12_memberLine_128 rfl rfl ?_
            refine at_dup (pc := 129) C dX12_memberLine_129 rfl ?_
            refine at_geti (pc := 130) (jz := 12) C fw_12_120 kd94 rfl (Nat.le_of_ble_eq_true rfl) rfl rfl dX12_memberLine_130 ?_
            refine at_iconst (pc := 133) C dX12_memberLine_133 ?_
            refine at_iadd (pc := 134) C dX12_memberLine_134 ?_
            refine at_puti (pc := 135) (jz := 12) C fu_12_120 kd94 rfl (Nat.le_of_ble_eq_true rfl) rfl rfl dX12_memberLine_135 ?_
            refine at_iconst (pc := 138) C dX12_memberLine_138 ?_
            obtain rfl := Option.some.inj hF
            exact at_zret (pc := 139) C hr hlk (Or.inr rfl) (OK_up (k := 94) (j := 12) (OK_up (k := 97) (j := (ja (ja 24 (jm 3 (q2.1 94 12))) 2)) okq11 (okq11 94 22)) (ja_R ((upI q11.2 97 (ja (ja 24 (jm 3 (q2.1 94 12))) 2) (q11.2.1 94 22)).1 94 12) 1)) dX12_memberLine_139
          · have hF := (if_pos c12).symm.trans hF
            refine at_iconst (pc := 114) C dX12_memberLine_114 ?_
            obtain rfl := Option.some.inj hF
            exact at_zret (pc := 115) C hr hlk (Or.inl rfl) okq11 dX12_memberLine_115
        · have hF := (if_pos c9).symm.trans hF
          refine at_iconst (pc := 90) C dX12_memberLine_90 ?_
          obtain rfl := Option.some.inj hF
          exact at_zret (pc := 91) C hr hlk (Or.inl rfl) okq8 dX12_memberLine_91
      · have hF := (if_neg c5).symm.trans hF
        refine at_aload_n (pc := 50) C 0 dX12_memberLine_50 rfl rfl ?_
        refine at_iconst (pc := 51) C dX12_memberLine_51 ?_
        obtain ⟨q14, eq14, hF⟩ := bind_some' hF
        refine at_callV (pc := 52) (ci := 12) C (c_X12_wrong l g N 3 q2 q14 (show inR 3 from ⟨by decide, by decide⟩) okq2 eq14) kv_X12_wrong w1505 kd94 rfl rfl rfl rfl (Nat.le_of_ble_eq_true rfl) ⟨rfl, rfl, (Nat.le_of_ble_eq_true rfl), (Nat.le_of_ble_eq_true rfl)⟩ dX12_memberLine_52 (fun tq14 okq14 => ?_)
        obtain rfl := Option.some.inj hF
        exact at_zret (pc := 55) C hr hlk tq14 okq14 dX12_memberLine_55
    · have hF := (if_neg c3).symm.trans hF
      refine at_aload_n (pc := 27) C 0 dX12_memberLine_27 rfl rfl ?_
      refine at_iconst (pc := 28) C dX12_memberLine_28 ?_
      obtain ⟨q15, eq15, hF⟩ := bind_some' hF
      refine at_callV (pc := 29) (ci := 12) C (c_X12_wrong l g N 1 q2 q15 (isB.r (Or.inr rfl)) okq2 eq15) kv_X12_wrong w1505 kd94 rfl rfl rfl rfl (Nat.le_of_ble_eq_true rfl) ⟨rfl, rfl, (Nat.le_of_ble_eq_true rfl), (Nat.le_of_ble_eq_true rfl)⟩ dX12_memberLine_29 (fun tq15 okq15 => ?_)
      obtain rfl := Option.some.inj hF
      exact at_zret (pc := 32) C hr hlk tq15 okq15 dX12_memberLine_32
  · have hF := (if_pos c1).symm.trans hF
    refine at_aload_n (pc := 9) C 0 dX12_memberLine_9 rfl rfl ?_
    refine at_iconst (pc := 10) C dX12_memberLine_10 ?_
    obtain ⟨q16, eq16, hF⟩ := bind_some' hF
    refine at_callV (pc := 11) (ci := 12) C (c_X12_wrong l g N 2 σ q16 (show inR 2 from ⟨by decide, by decide⟩) ok eq16) kv_X12_wrong w1505 kd94 rfl rfl rfl rfl (Nat.le_of_ble_eq_true rfl) ⟨rfl, rfl, (Nat.le_of_ble_eq_true rfl), (Nat.le_of_ble_eq_true rfl)⟩ dX12_memberLine_11 (fun tq16 okq16 => ?_)
    obtain rfl := Option.some.inj hF
    exact at_zret (pc := 14) C hr hlk tq16 okq16 dX12_memberLine_14
abbrev rm_X12_ownsLine : Room := { frames := 4, cells := 0, slots := 0, locals := 91 }
def F_X12_ownsLine (N : Nat)  (σ : Sto) : Option (Int × Sto) :=
  if (σ.1 94 18) = 16 then ((F_X12_wrong N 2 σ).bind (fun q17 => some (q17.1, q17.2))) else ((F_X12_memberRead N σ).bind (fun q2 => if q2.1 = 0 then (some (0, q2.2)) else (inb (ja 64 (jm 4 (σ.1 94 18))) 128 ((F_X12_memberRead N (upI q2.2 99 (ja 64 (jm 4 (σ.1 94 18))) (q2.2.1 94 22))).bind (fun q5 => if q5.1 = 0 then (some (0, q5.2)) else (if (q5.2.1 99 (ja 64 (jm 4 (σ.1 94 18)))) < (q5.2.1 94 22) then (inb (ja (ja 64 (jm 4 (σ.1 94 18))) 1) 128 ((F_X12_token N (upI q5.2 99 (ja (ja 64 (jm 4 (σ.1 94 18))) 1) (q5.2.1 94 22))).bind (fun q9 => (F_X12_number N 0 100 q9).bind (fun q10 => if q10.1 = 0 then (some (0, q10.2)) else (inb (ja (ja 64 (jm 4 (σ.1 94 18))) 2) 128 ((F_X12_number N 0 999 (upI q10.2 99 (ja (ja 64 (jm 4 (σ.1 94 18))) 2) (q10.2.1 94 22))).bind (fun q13 => if q13.1 = 0 then (some (0, q13.2)) else (inb (ja (ja 64 (jm 4 (σ.1 94 18))) 3) 128 (some (1, (upI (upI q13.2 99 (ja (ja 64 (jm 4 (σ.1 94 18))) 3) (q13.2.1 94 22)) 94 18 (ja ((upI q13.2 99 (ja (ja 64 (jm 4 (σ.1 94 18))) 3) (q13.2.1 94 22)).1 94 18) 1)))))))))))) else ((F_X12_wrong N 2 q5.2).bind (fun q16 => some (q16.1, q16.2)))))))))
set_option maxHeartbeats 4000000 in
set_option maxRecDepth 100000 in
theorem c_X12_ownsLine (l : Launch) (g : Geo) (N : Nat)  (σ : Sto) (res : Int × Sto)  (ok : OK σ) (hF : F_X12_ownsLine N  σ = some res) : MtI l g yX12_ownsLine cX12_ownsLine 2 (some .boolean) rm_X12_ownsLine [vr g 94] σ res.1 res.2 isB := by
  intro sz
  refine Met.ofAt (own := RX12) (QQ := fun z => QI g z res.1 res.2 isB) (by decide +kernel) (Nat.le_of_ble_eq_true rfl) rfl ?_
  intro p e s m args below meth c C hr hlk
  show At p l e rm_X12_ownsLine s m args below meth c 0 0 g 2 (MQ below (QI g s.heap.size res.1 res.2 isB) args s 0 0 (AA g s.heap.size)) 0 [(0, vr g 94)] [] σ
  unfold F_X12_ownsLine at hF
  refine at_aload_n (pc := 0) C 0 dX12_ownsLine_0 rfl rfl ?_
  refine at_geti (pc := 1) (jz := 18) C fw_12_126 kd94 rfl (Nat.le_of_ble_eq_true rfl) rfl rfl dX12_ownsLine_1 ?_
  refine at_bipush (pc := 4) C dX12_ownsLine_4 (by decide) ?_
  refine at_icmp_ne (pc := 6) (tgt := 15) C (ok 94 18) (show inR 16 from ⟨by decide, by decide⟩) dX12_ownsLine_6 rfl (fun c1 => ?_) (fun c1 => ?_)
  · have hF := (if_neg c1).symm.trans hF
    refine at_bipush (pc := 15) C dX12_ownsLine_15 (by decide) ?_
    refine at_iconst (pc := 17) C dX12_ownsLine_17 ?_
    refine at_aload_n (pc := 18) C 0 dX12_ownsLine_18 rfl rfl ?_
    refine at_geti (pc := 19) (jz := 18) C fw_12_126 kd94 rfl (Nat.le_of_ble_eq_true rfl) rfl rfl dX12_ownsLine_19 ?_
    refine at_imul (pc := 22) C dX12_ownsLine_22 ?_
    refine at_iadd (pc := 23) C dX12_ownsLine_23 ?_
    refine at_istore_n (pc := 24) (lv' := [(1, vi (ja 64 (jm 4 (σ.1 94 18)))), (0, vr g 94)]) C dX12_ownsLine_24 rfl (Nat.le_of_ble_eq_true rfl) rfl ?_
    refine at_aload_n (pc := 25) C 1 dX12_ownsLine_25 rfl rfl ?_
    obtain ⟨q2, eq2, hF⟩ := bind_some' hF
    refine at_callV (pc := 26) (ci := 12) C (c_X12_memberRead l g N  σ q2  ok eq2) kv_X12_memberRead w1532 kd94 rfl rfl rfl rfl (Nat.le_of_ble_eq_true rfl) ⟨rfl, rfl, (Nat.le_of_ble_eq_true rfl), (Nat.le_of_ble_eq_true rfl)⟩ dX12_ownsLine_26 (fun tq2 okq2 => ?_)
    refine at_if_ne (pc := 29) (tgt := 34) C (isB.r tq2) dX12_ownsLine_29 rfl (fun c3 => ?_) (fun c3 => ?_)
    · have hF := (if_neg c3).symm.trans hF
      refine at_aload_n (pc := 34) C 1 dX12_ownsLine_34 rfl rfl ?_
      refine at_getr (pc := 35) (k' := 99) C 5 fw_12_26 kd94 rfl (Nat.le_of_ble_eq_true rfl) rfl rfl dX12_ownsLine_35 ?_
      refine at_iload_n (pc := 38) C 0 dX12_ownsLine_38 rfl rfl ?_
      refine at_aload_n (pc := 39) C 1 dX12_ownsLine_39 rfl rfl ?_
      refine at_geti (pc := 40) (jz := 22) C fw_12_169 kd94 rfl (Nat.le_of_ble_eq_true rfl) rfl rfl dX12_ownsLine_40 ?_
      obtain ⟨b4, hF⟩ := inb_some hF
      refine at_iastore (pc := 43) C kd99 b4 dX12_ownsLine_43 ?_
      refine at_aload_n (pc := 44) C 1 dX12_ownsLine_44 rfl rfl ?_
      obtain ⟨q5, eq5, hF⟩ := bind_some' hF
      refine at_callV (pc := 45) (ci := 12) C (c_X12_memberRead l g N  (upI q2.2 99 (ja 64 (jm 4 (σ.1 94 18))) (q2.2.1 94 22)) q5  (OK_up (k := 99) (j := (ja 64 (jm 4 (σ.1 94 18)))) okq2 (okq2 94 22)) eq5) kv_X12_memberRead w1532 kd94 rfl rfl rfl rfl (Nat.le_of_ble_eq_true rfl) ⟨rfl, rfl, (Nat.le_of_ble_eq_true rfl), (Nat.le_of_ble_eq_true rfl)⟩ dX12_ownsLine_45 (fun tq5 okq5 => ?_)
      refine at_if_ne (pc := 48) (tgt := 53) C (isB.r tq5) dX12_ownsLine_48 rfl (fun c6 => ?_) (fun c6 => ?_)
      · have hF := (if_neg c6).symm.trans hF
        refine at_aload_n (pc := 53) C 1 dX12_ownsLine_53 rfl rfl ?_
        refine at_geti (pc := 54) (jz := 22) C fw_12_169 kd94 rfl (Nat.le_of_ble_eq_true rfl) rfl rfl dX12_ownsLine_54 ?_
        refine at_aload_n (pc := 57) C 1 dX12_ownsLine_57 rfl rfl ?_
        refine at_getr (pc := 58) (k' := 99) C 5 fw_12_26 kd94 rfl (Nat.le_of_ble_eq_true rfl) rfl rfl dX12_ownsLine_58 ?_
        refine at_iload_n (pc := 61) C 0 dX12_ownsLine_61 rfl rfl ?_
        refine at_iaload (pc := 62) C kd99 b4 dX12_ownsLine_62 ?_
        refine at_icmp_gt (pc := 63) (tgt := 72) C (okq5 94 22) (okq5 99 (ja 64 (jm 4 (σ.1 94 18)))) dX12_ownsLine_63 rfl (fun c7 => ?_) (fun c7 => ?_)
        · have hF := (if_pos c7).symm.trans hF
          refine at_aload_n (pc := 72) C 1 dX12_ownsLine_72 rfl rfl ?_
          refine at_getr (pc := 73) (k' := 99) C 5 fw_12_26 kd94 rfl (Nat.le_of_ble_eq_true rfl) rfl rfl dX12_ownsLine_73 ?_
          refine at_iload_n (pc := 76) C 0 dX12_ownsLine_76 rfl rfl ?_
          refine at_iconst (pc := 77) C dX12_ownsLine_77 ?_
          refine at_iadd (pc := 78) C dX12_ownsLine_78 ?_
          refine at_aload_n (pc := 79) C 1 dX12_ownsLine_79 rfl rfl ?_
          refine at_geti (pc := 80) (jz := 22) C fw_12_169 kd94 rfl (Nat.le_of_ble_eq_true rfl) rfl rfl dX12_ownsLine_80 ?_
          obtain ⟨b8, hF⟩ := inb_some hF
          refine at_iastore (pc := 83) C kd99 b8 dX12_ownsLine_83 ?_
          refine at_aload_n (pc := 84) C 1 dX12_ownsLine_84 rfl rfl ?_
          obtain ⟨q9, eq9, hF⟩ := bind_some' hF
          refine at_callVv (pc := 85) (ci := 12) C (c_X12_token l g N  (upI q5.2 99 (ja (ja 64 (jm 4 (σ.1 94 18))) 1) (q5.2.1 94 22)) q9  (OK_up (k := 99) (j := (ja (ja 64 (jm 4 (σ.1 94 18))) 1)) okq5 (okq5 94 22)) eq9) kv_X12_token w1480 kd94 rfl rfl rfl rfl (Nat.le_of_ble_eq_true rfl) ⟨rfl, rfl, (Nat.le_of_ble_eq_true rfl), (Nat.le_of_ble_eq_true rfl)⟩ dX12_ownsLine_85 (fun okq9 => ?_)
          refine at_aload_n (pc := 88) C 1 dX12_ownsLine_88 rfl rfl ?_
          refine at_iconst (pc := 89) C dX12_ownsLine_89 ?_
          refine at_bipush (pc := 90) C dX12_ownsLine_90 (by decide) ?_
          obtain ⟨q10, eq10, hF⟩ := bind_some' hF
          refine at_callV (pc := 92) (ci := 12) C (c_X12_number l g N 0 100 q9 q10 (isB.r (Or.inl rfl)) (show inR 100 from ⟨by decide, by decide⟩) okq9 eq10) kv_X12_number w1517 kd94 rfl rfl rfl rfl (Nat.le_of_ble_eq_true rfl) ⟨rfl, rfl, (Nat.le_of_ble_eq_true rfl), (Nat.le_of_ble_eq_true rfl)⟩ dX12_ownsLine_92 (fun tq10 okq10 => ?_)
          refine at_if_ne (pc := 95) (tgt := 100) C (isB.r tq10) dX12_ownsLine_95 rfl (fun c11 => ?_) (fun c11 => ?_)
          · have hF := (if_neg c11).symm.trans hF
            refine at_aload_n (pc := 100) C 1 dX12_ownsLine_100 rfl rfl ?_
            refine at_getr (pc := 101) (k' := 99) C 5 fw_12_26 kd94 rfl (Nat.le_of_ble_eq_true rfl) rfl rfl dX12_ownsLine_101 ?_
            refine at_iload_n (pc := 104) C 0 dX12_ownsLine_104 rfl rfl ?_
            refine at_iconst (pc := 105) C dX12_ownsLine_105 ?_
            refine at_iadd (pc := 106) C dX12_ownsLine_106 ?_
            refine at_aload_n (pc := 107) C 1 dX12_ownsLine_107 rfl rfl ?_
            refine at_geti (pc := 108) (jz := 22) C fw_12_169 kd94 rfl (Nat.le_of_ble_eq_true rfl) rfl rfl dX12_ownsLine_108 ?_
            obtain ⟨b12, hF⟩ := inb_some hF
            refine at_iastore (pc := 111) C kd99 b12 dX12_ownsLine_111 ?_
            refine at_aload_n (pc := 112) C 1 dX12_ownsLine_112 rfl rfl ?_
            refine at_iconst (pc := 113) C dX12_ownsLine_113 ?_
            refine at_sipush (pc := 114) C dX12_ownsLine_114 (by decide) ?_
            obtain ⟨q13, eq13, hF⟩ := bind_some' hF
            refine at_callV (pc := 117) (ci := 12) C (c_X12_number l g N 0 999 (upI q10.2 99 (ja (ja 64 (jm 4 (σ.1 94 18))) 2) (q10.2.1 94 22)) q13 (isB.r (Or.inl rfl)) (show inR 999 from ⟨by decide, by decide⟩) (OK_up (k := 99) (j := (ja (ja 64 (jm 4 (σ.1 94 18))) 2)) okq10 (okq10 94 22)) eq13) kv_X12_number w1517 kd94 rfl rfl rfl rfl (Nat.le_of_ble_eq_true rfl) ⟨rfl, rfl, (Nat.le_of_ble_eq_true rfl), (Nat.le_of_ble_eq_true rfl)⟩ dX12_ownsLine_117 (fun tq13 okq13 => ?_)
            refine at_if_ne (pc := 120) (tgt := 125) C (isB.r tq13) dX12_ownsLine_120 rfl (fun c14 => ?_) (fun c14 => ?_)
            · have hF := (if_neg c14).symm.trans hF
              refine at_aload_n (pc := 125) C 1 dX12_ownsLine_125 rfl rfl ?_
              refine at_getr (pc := 126) (k' := 99) C 5 fw_12_26 kd94 rfl (Nat.le_of_ble_eq_true rfl) rfl rfl dX12_ownsLine_126 ?_
              refine at_iload_n (pc := 129) C 0 dX12_ownsLine_129 rfl rfl ?_
              refine at_iconst (pc := 130) C dX12_ownsLine_130 ?_
              refine at_iadd (pc := 131) C dX12_ownsLine_131 ?_
              refine at_aload_n (pc := 132) C 1 dX12_ownsLine_132 rfl rfl ?_
              refine at_geti (pc := 133) (jz := 22) C fw_12_169 kd94 rfl (Nat.le_of_ble_eq_true rfl) rfl rfl dX12_ownsLine_133 ?_
              obtain ⟨b15, hF⟩ := inb_some hF
              refine at_iastore (pc := 136) C kd99 b15 dX12_ownsLine_136 ?_
              refine at_aload_n (pc := 137) C 1 dX12_ownsLine_137 rfl rfl ?_
              refine at_dup (pc := 138) C dX12_ownsLine_138 rfl ?_
              refine at_geti (pc := 139) (jz := 18) C fw_12_126 kd94 rfl (Nat.le_of_ble_eq_true rfl) rfl rfl dX12_ownsLine_139 ?_
              refine at_iconst (pc := 142) C dX12_ownsLine_142 ?_
              refine at_iadd (pc := 143) C dX12_ownsLine_143 ?_
              refine at_puti (pc := 144) (jz := 18) C fu_12_126 kd94 rfl (Nat.le_of_ble_eq_true rfl) rfl rfl dX12_ownsLine_144 ?_
              refine at_iconst (pc := 147) C dX12_ownsLine_147 ?_
              obtain rfl := Option.some.inj hF
              exact at_zret (pc := 148) C hr hlk (Or.inr rfl) (OK_up (k := 94) (j := 18) (OK_up (k := 99) (j := (ja (ja 64 (jm 4 (σ.1 94 18))) 3)) okq13 (okq13 94 22)) (ja_R ((upI q13.2 99 (ja (ja 64 (jm 4 (σ.1 94 18))) 3) (q13.2.1 94 22)).1 94 18) 1)) dX12_ownsLine_148
            · have hF := (if_pos c14).symm.trans hF
              refine at_iconst (pc := 123) C dX12_ownsLine_123 ?_
              obtain rfl := Option.some.inj hF
              exact at_zret (pc := 124) C hr hlk (Or.inl rfl) okq13 dX12_ownsLine_124
          · have hF := (if_pos c11).symm.trans hF
            refine at_iconst (pc := 98) C dX12_ownsLine_98 ?_
            obtain rfl := Option.some.inj hF
            exact at_zret (pc := 99) C hr hlk (Or.inl rfl) okq10 dX12_ownsLine_99
        · have hF := (if_neg c7).symm.trans hF
          refine at_aload_n (pc := 66) C 1 dX12_ownsLine_66 rfl rfl ?_
          refine at_iconst (pc := 67) C dX12_ownsLine_67 ?_
          obtain ⟨q16, eq16, hF⟩ := bind_some' hF
          refine at_callV (pc := 68) (ci := 12) C (c_X12_wrong l g N 2 q5.2 q16 (show inR 2 from ⟨by decide, by decide⟩) okq5 eq16) kv_X12_wrong w1505 kd94 rfl rfl rfl rfl (Nat.le_of_ble_eq_true rfl) ⟨rfl, rfl, (Nat.le_of_ble_eq_true rfl), (Nat.le_of_ble_eq_true rfl)⟩ dX12_ownsLine_68 (fun tq16 okq16 => ?_)
          obtain rfl := Option.some.inj hF
          exact at_zret (pc := 71) C hr hlk tq16 okq16 dX12_ownsLine_71
      · have hF := (if_pos c6).symm.trans hF
        refine at_iconst (pc := 51) C dX12_ownsLine_51 ?_
        obtain rfl := Option.some.inj hF
        exact at_zret (pc := 52) C hr hlk (Or.inl rfl) okq5 dX12_ownsLine_52
    · have hF := (if_pos c3).symm.trans hF
      refine at_iconst (pc := 32) C dX12_ownsLine_32 ?_
      obtain rfl := Option.some.inj hF
      exact at_zret (pc := 33) C hr hlk (Or.inl rfl) okq2 dX12_ownsLine_33
  · have hF := (if_pos c1).symm.trans hF
    refine at_aload_n (pc := 9) C 0 dX12_ownsLine_9 rfl rfl ?_
    refine at_iconst (pc := 10) C dX12_ownsLine_10 ?_
    obtain ⟨q17, eq17, hF⟩ := bind_some' hF
    refine at_callV (pc := 11) (ci := 12) C (c_X12_wrong l g N 2 σ q17 (show inR 2 from ⟨by decide, by decide⟩) ok eq17) kv_X12_wrong w1505 kd94 rfl rfl rfl rfl (Nat.le_of_ble_eq_true rfl) ⟨rfl, rfl, (Nat.le_of_ble_eq_true rfl), (Nat.le_of_ble_eq_true rfl)⟩ dX12_ownsLine_11 (fun tq17 okq17 => ?_)
    obtain rfl := Option.some.inj hF
    exact at_zret (pc := 14) C hr hlk tq17 okq17 dX12_ownsLine_14
abbrev rm_X12_periodLine : Room := { frames := 4, cells := 0, slots := 0, locals := 91 }
def F_X12_periodLine_J183 (N : Nat)  (v1 : Int) (σ : Sto) : Option (Int × Sto) :=
  inb (ja v1 2) 96 ((F_X12_token N (upI σ 98 (ja v1 2) (σ.1 94 9))).bind (fun q13 => (F_X12_signed N (-99999) 99999 q13).bind (fun q14 => if q14.1 = 0 then (some (0, q14.2)) else (inb (ja v1 3) 96 (some (1, (upI (upI q14.2 98 (ja v1 3) (q14.2.1 94 22)) 94 15 (ja ((upI q14.2 98 (ja v1 3) (q14.2.1 94 22)).1 94 15) 1))))))))
def F_X12_periodLine_J177 (N : Nat) (nx117 : (Int) → Option (Int × Sto)) (v1 : Int) (v2 : Int) (σ : Sto) : Option (Int × Sto) :=
  nx117 (ja v2 4)
def F_X12_periodLine_J171 (N : Nat)   (σ : Sto) : Option (Int × Sto) :=
  (F_X12_wrong N 3 σ).bind (fun q23 => some (q23.1, q23.2))
def F_X12_periodLine_B117 (N : Nat) (nx117 : (Int) → Option (Int × Sto)) (v1 : Int) (v2 : Int) (σ : Sto) : Option (Int × Sto) :=
  if v1 ≤ v2 then (F_X12_periodLine_J183 N  v1 σ) else (inb v2 96 (inb v1 96 (if (σ.1 98 v2) = (σ.1 98 v1) then (inb (ja v2 1) 96 (if (σ.1 94 9) < (σ.1 98 (ja v2 1)) then (F_X12_periodLine_J177 N nx117 v1 v2 σ) else (inb (ja v1 1) 96 (inb (ja v2 2) 96 (if (σ.1 98 (ja v2 2)) < (σ.1 98 (ja v1 1)) then (F_X12_periodLine_J177 N nx117 v1 v2 σ) else (F_X12_periodLine_J171 N   σ)))))) else (F_X12_periodLine_J177 N nx117 v1 v2 σ))))
def F_X12_periodLine (N : Nat)  (σ : Sto) : Option (Int × Sto) :=
  if (σ.1 94 15) = 12 then ((F_X12_wrong N 2 σ).bind (fun q29 => some (q29.1, q29.2))) else ((F_X12_memberRead N σ).bind (fun q2 => if q2.1 = 0 then (some (0, q2.2)) else (inb (ja 48 (jm 4 (σ.1 94 15))) 96 ((F_X12_token N (upI q2.2 98 (ja 48 (jm 4 (σ.1 94 15))) (q2.2.1 94 22))).bind (fun q5 => (F_X12_number N 0 999 q5).bind (fun q6 => if q6.1 = 0 then (some (0, q6.2)) else (inb (ja (ja 48 (jm 4 (σ.1 94 15))) 1) 96 (if ((upI q6.2 98 (ja (ja 48 (jm 4 (σ.1 94 15))) 1) (q6.2.1 94 22)).1 94 8) = 3 then ((F_X12_isIn N ((upI q6.2 98 (ja (ja 48 (jm 4 (σ.1 94 15))) 1) (q6.2.1 94 22)).1 94 9) ((upI q6.2 98 (ja (ja 48 (jm 4 (σ.1 94 15))) 1) (q6.2.1 94 22)).1 98 (ja (ja 48 (jm 4 (σ.1 94 15))) 1)) 999 (upI q6.2 98 (ja (ja 48 (jm 4 (σ.1 94 15))) 1) (q6.2.1 94 22))).bind (fun q10 => if q10 = 0 then ((F_X12_wrong N 2 (upI q6.2 98 (ja (ja 48 (jm 4 (σ.1 94 15))) 1) (q6.2.1 94 22))).bind (fun q27 => some (q27.1, q27.2))) else (loopK (fun q nx117 => F_X12_periodLine_B117 N  nx117 (ja 48 (jm 4 (σ.1 94 15))) q (upI q6.2 98 (ja (ja 48 (jm 4 (σ.1 94 15))) 1) (q6.2.1 94 22))) N 48))) else ((F_X12_wrong N 1 (upI q6.2 98 (ja (ja 48 (jm 4 (σ.1 94 15))) 1) (q6.2.1 94 22))).bind (fun q28 => some (q28.1, q28.2)))))))))))
set_option maxHeartbeats 4000000 in
set_option maxRecDepth 100000 in
theorem c_X12_periodLine (l : Launch) (g : Geo) (N : Nat)  (σ : Sto) (res : Int × Sto)  (ok : OK σ) (hF : F_X12_periodLine N  σ = some res) : MtI l g yX12_periodLine cX12_periodLine 3 (some .boolean) rm_X12_periodLine [vr g 94] σ res.1 res.2 isB := by
  intro sz
  refine Met.ofAt (own := RX12) (QQ := fun z => QI g z res.1 res.2 isB) (by decide +kernel) (Nat.le_of_ble_eq_true rfl) rfl ?_
  intro p e s m args below meth c C hr hlk
  show At p l e rm_X12_periodLine s m args below meth c 0 0 g 3 (MQ below (QI g s.heap.size res.1 res.2 isB) args s 0 0 (AA g s.heap.size)) 0 [(0, vr g 94)] [] σ
  unfold F_X12_periodLine at hF
  refine at_aload_n (pc := 0) C 0 dX12_periodLine_0 rfl rfl ?_
  refine at_geti (pc := 1) (jz := 15) C fw_12_123 kd94 rfl (Nat.le_of_ble_eq_true rfl) rfl rfl dX12_periodLine_1 ?_
  refine at_bipush (pc := 4) C dX12_periodLine_4 (by decide) ?_
  refine at_icmp_ne (pc := 6) (tgt := 15) C (ok 94 15) (show inR 12 from ⟨by decide, by decide⟩) dX12_periodLine_6 rfl (fun c1 => ?_) (fun c1 => ?_)
  · have hF := (if_neg c1).symm.trans hF
    refine at_bipush (pc := 15) C dX12_periodLine_15 (by decide) ?_
    refine at_iconst (pc := 17) C dX12_periodLine_17 ?_
    refine at_aload_n (pc := 18) C 0 dX12_periodLine_18 rfl rfl ?_
    refine at_geti (pc := 19) (jz := 15) C fw_12_123 kd94 rfl (Nat.le_of_ble_eq_true rfl) rfl rfl dX12_periodLine_19 ?_
    refine at_imul (pc := 22) C dX12_periodLine_22 ?_
    refine at_iadd (pc := 23) C dX12_periodLine_23 ?_
    refine at_istore_n (pc := 24) (lv' := [(1, vi (ja 48 (jm 4 (σ.1 94 15)))), (0, vr g 94)]) C dX12_periodLine_24 rfl (Nat.le_of_ble_eq_true rfl) rfl ?_
    refine at_aload_n (pc := 25) C 1 dX12_periodLine_25 rfl rfl ?_
    obtain ⟨q2, eq2, hF⟩ := bind_some' hF
    refine at_callV (pc := 26) (ci := 12) C (c_X12_memberRead l g N  σ q2  ok eq2) kv_X12_memberRead w1532 kd94 rfl rfl rfl rfl (Nat.le_of_ble_eq_true rfl) ⟨rfl, rfl, (Nat.le_of_ble_eq_true rfl), (Nat.le_of_ble_eq_true rfl)⟩ dX12_periodLine_26 (fun tq2 okq2 => ?_)
    refine at_if_ne (pc := 29) (tgt := 34) C (isB.r tq2) dX12_periodLine_29 rfl (fun c3 => ?_) (fun c3 => ?_)
    · have hF := (if_neg c3).symm.trans hF
      refine at_aload_n (pc := 34) C 1 dX12_periodLine_34 rfl rfl ?_
      refine at_getr (pc := 35) (k' := 98) C 4 fw_12_23 kd94 rfl (Nat.le_of_ble_eq_true rfl) rfl rfl dX12_periodLine_35 ?_
      refine at_iload_n (pc := 38) C 0 dX12_periodLine_38 rfl rfl ?_
      refine at_aload_n (pc := 39) C 1 dX12_periodLine_39 rfl rfl ?_
      refine at_geti (pc := 40) (jz := 22) C fw_12_169 kd94 rfl (Nat.le_of_ble_eq_true rfl) rfl rfl dX12_periodLine_40 ?_
      obtain ⟨b4, hF⟩ := inb_some hF
      refine at_iastore (pc := 43) C kd98 b4 dX12_periodLine_43 ?_
      refine at_aload_n (pc := 44) C 1 dX12_periodLine_44 rfl rfl ?_
      obtain ⟨q5, eq5, hF⟩ := bind_some' hF
      refine at_callVv (pc := 45) (ci := 12) C (c_X12_token l g N  (upI q2.2 98 (ja 48 (jm 4 (σ.1 94 15))) (q2.2.1 94 22)) q5  (OK_up (k := 98) (j := (ja 48 (jm 4 (σ.1 94 15)))) okq2 (okq2 94 22)) eq5) kv_X12_token w1480 kd94 rfl rfl rfl rfl (Nat.le_of_ble_eq_true rfl) ⟨rfl, rfl, (Nat.le_of_ble_eq_true rfl), (Nat.le_of_ble_eq_true rfl)⟩ dX12_periodLine_45 (fun okq5 => ?_)
      refine at_aload_n (pc := 48) C 1 dX12_periodLine_48 rfl rfl ?_
      refine at_iconst (pc := 49) C dX12_periodLine_49 ?_
      refine at_sipush (pc := 50) C dX12_periodLine_50 (by decide) ?_
      obtain ⟨q6, eq6, hF⟩ := bind_some' hF
      refine at_callV (pc := 53) (ci := 12) C (c_X12_number l g N 0 999 q5 q6 (isB.r (Or.inl rfl)) (show inR 999 from ⟨by decide, by decide⟩) okq5 eq6) kv_X12_number w1517 kd94 rfl rfl rfl rfl (Nat.le_of_ble_eq_true rfl) ⟨rfl, rfl, (Nat.le_of_ble_eq_true rfl), (Nat.le_of_ble_eq_true rfl)⟩ dX12_periodLine_53 (fun tq6 okq6 => ?_)
      refine at_if_ne (pc := 56) (tgt := 61) C (isB.r tq6) dX12_periodLine_56 rfl (fun c7 => ?_) (fun c7 => ?_)
      · have hF := (if_neg c7).symm.trans hF
        refine at_aload_n (pc := 61) C 1 dX12_periodLine_61 rfl rfl ?_
        refine at_getr (pc := 62) (k' := 98) C 4 fw_12_23 kd94 rfl (Nat.le_of_ble_eq_true rfl) rfl rfl dX12_periodLine_62 ?_
        refine at_iload_n (pc := 65) C 0 dX12_periodLine_65 rfl rfl ?_
        refine at_iconst (pc := 66) C dX12_periodLine_66 ?_
        refine at_iadd (pc := 67) C dX12_periodLine_67 ?_
        refine at_aload_n (pc := 68) C 1 dX12_periodLine_68 rfl rfl ?_
        refine at_geti (pc := 69) (jz := 22) C fw_12_169 kd94 rfl (Nat.le_of_ble_eq_true rfl) rfl rfl dX12_periodLine_69 ?_
        obtain ⟨b8, hF⟩ := inb_some hF
        refine at_iastore (pc := 72) C kd98 b8 dX12_periodLine_72 ?_
        refine at_aload_n (pc := 73) C 1 dX12_periodLine_73 rfl rfl ?_
        refine at_geti (pc := 74) (jz := 8) C fw_12_99 kd94 rfl (Nat.le_of_ble_eq_true rfl) rfl rfl dX12_periodLine_74 ?_
        refine at_iconst (pc := 77) C dX12_periodLine_77 ?_
        refine at_icmp_eq (pc := 78) (tgt := 87) C ((OK_up (k := 98) (j := (ja (ja 48 (jm 4 (σ.1 94 15))) 1)) okq6 (okq6 94 22)) 94 8) (show inR 3 from ⟨by decide, by decide⟩) dX12_periodLine_78 rfl (fun c9 => ?_) (fun c9 => ?_)
        · have hF := (if_pos c9).symm.trans hF
          refine at_aload_n (pc := 87) C 1 dX12_periodLine_87 rfl rfl ?_
          refine at_geti (pc := 88) (jz := 9) C fw_12_110 kd94 rfl (Nat.le_of_ble_eq_true rfl) rfl rfl dX12_periodLine_88 ?_
          refine at_aload_n (pc := 91) C 1 dX12_periodLine_91 rfl rfl ?_
          refine at_getr (pc := 92) (k' := 98) C 4 fw_12_23 kd94 rfl (Nat.le_of_ble_eq_true rfl) rfl rfl dX12_periodLine_92 ?_
          refine at_iload_n (pc := 95) C 0 dX12_periodLine_95 rfl rfl ?_
          refine at_iconst (pc := 96) C dX12_periodLine_96 ?_
          refine at_iadd (pc := 97) C dX12_periodLine_97 ?_
          refine at_iaload (pc := 98) C kd98 b8 dX12_periodLine_98 ?_
          refine at_sipush (pc := 99) C dX12_periodLine_99 (by decide) ?_
          obtain ⟨q10, eq10, hF⟩ := bind_some' hF
          refine at_callS (pc := 102) C (c_X12_isIn l g N ((upI q6.2 98 (ja (ja 48 (jm 4 (σ.1 94 15))) 1) (q6.2.1 94 22)).1 94 9) ((upI q6.2 98 (ja (ja 48 (jm 4 (σ.1 94 15))) 1) (q6.2.1 94 22)).1 98 (ja (ja 48 (jm 4 (σ.1 94 15))) 1)) 999 (upI q6.2 98 (ja (ja 48 (jm 4 (σ.1 94 15))) 1) (q6.2.1 94 22)) q10 ((OK_up (k := 98) (j := (ja (ja 48 (jm 4 (σ.1 94 15))) 1)) okq6 (okq6 94 22)) 94 9) ((OK_up (k := 98) (j := (ja (ja 48 (jm 4 (σ.1 94 15))) 1)) okq6 (okq6 94 22)) 98 (ja (ja 48 (jm 4 (σ.1 94 15))) 1)) (show inR 999 from ⟨by decide, by decide⟩) (OK_up (k := 98) (j := (ja (ja 48 (jm 4 (σ.1 94 15))) 1)) okq6 (okq6 94 22)) eq10) ks_X12_isIn w1525 rfl rfl (Nat.le_of_ble_eq_true rfl) ⟨rfl, rfl, (Nat.le_of_ble_eq_true rfl), (Nat.le_of_ble_eq_true rfl)⟩ dX12_periodLine_102 (fun tq10 okq10 => ?_)
          refine at_if_ne (pc := 105) (tgt := 114) C (isB.r tq10) dX12_periodLine_105 rfl (fun c11 => ?_) (fun c11 => ?_)
          · have hF := (if_neg c11).symm.trans hF
            refine at_bipush (pc := 114) C dX12_periodLine_114 (by decide) ?_
            refine at_istore_n (pc := 116) (lv' := [(2, vi 48), (1, vi (ja 48 (jm 4 (σ.1 94 15)))), (0, vr g 94)]) C dX12_periodLine_116 rfl (Nat.le_of_ble_eq_true rfl) rfl ?_
            have L117 : ∀ (v1 : Int) (v2 : Int) (σ : Sto), inR v1 → inR v2 → OK σ → loopK (fun q nx117 => F_X12_periodLine_B117 N  nx117 v1 q σ) N v2 = some res → At p l e rm_X12_periodLine s m args below meth c 0 0 g 3 (MQ below (QI g s.heap.size res.1 res.2 isB) args s 0 0 (AA g s.heap.size)) 117 [(0, vr g 94), (1, vi v1), (2, vi v2)] [] σ := by
              intro v1 v2 σ h1 h2 ok hF
              refine loopK_ind (res := res) (P := fun (q : Int) => inR q → At p l e rm_X12_periodLine s m args below meth c 0 0 g 3 (MQ below (QI g s.heap.size res.1 res.2 isB) args s 0 0 (AA g s.heap.size)) 117 [(0, vr g 94), (1, vi v1), (2, vi q)] [] σ) ?_ N _ hF h2
              intro nx117 v2 ih117 hF h2
              have hF : F_X12_periodLine_B117 N  nx117 v1 v2 σ = some res := hF
              unfold F_X12_periodLine_B117 at hF
              have J183 : ∀ (v1 : Int) (σ : Sto), inR v1 → OK σ → F_X12_periodLine_J183 N  v1 σ = some res → At p l e rm_X12_periodLine s m args below meth c 0 0 g 3 (MQ below (QI g s.heap.size res.1 res.2 isB) args s 0 0 (AA g s.heap.size)) 183 [(0, vr g 94), (1, vi v1)] [] σ := by
                intro v1 σ h1 ok hF
                unfold F_X12_periodLine_J183 at hF
                refine at_aload_n (pc := 183) C 0 dX12_periodLine_183 rfl rfl ?_
                refine at_getr (pc := 184) (k' := 98) C 4 fw_12_23 kd94 rfl (Nat.le_of_ble_eq_true rfl) rfl rfl dX12_periodLine_184 ?_
                refine at_iload_n (pc := 187) C 1 dX12_periodLine_187 rfl rfl ?_
                refine at_iconst (pc := 188) C dX12_periodLine_188 ?_
                refine at_iadd (pc := 189) C dX12_periodLine_189 ?_
                refine at_aload_n (pc := 190) C 0 dX12_periodLine_190 rfl rfl ?_
                refine at_geti (pc := 191) (jz := 9) C fw_12_110 kd94 rfl (Nat.le_of_ble_eq_true rfl) rfl rfl dX12_periodLine_191 ?_
                obtain ⟨b12, hF⟩ := inb_some hF
                refine at_iastore (pc := 194) C kd98 b12 dX12_periodLine_194 ?_
                refine at_aload_n (pc := 195) C 0 dX12_periodLine_195 rfl rfl ?_
                obtain ⟨q13, eq13, hF⟩ := bind_some' hF
                refine at_callVv (pc := 196) (ci := 12) C (c_X12_token l g N  (upI σ 98 (ja v1 2) (σ.1 94 9)) q13  (OK_up (k := 98) (j := (ja v1 2)) ok (ok 94 9)) eq13) kv_X12_token w1480 kd94 rfl rfl rfl rfl (Nat.le_of_ble_eq_true rfl) ⟨rfl, rfl, (Nat.le_of_ble_eq_true rfl), (Nat.le_of_ble_eq_true rfl)⟩ dX12_periodLine_196 (fun okq13 => ?_)
                refine at_aload_n (pc := 199) C 0 dX12_periodLine_199 rfl rfl ?_
                refine at_ldc (pc := 200) (n := (-99999)) C dX12_periodLine_200 w1540 ?_
                refine at_ldc (pc := 202) (n := 99999) C dX12_periodLine_202 w1500 ?_
                obtain ⟨q14, eq14, hF⟩ := bind_some' hF
                refine at_callV (pc := 204) (ci := 12) C (c_X12_signed l g N (-99999) 99999 q13 q14 (show inR (-99999) from ⟨by decide, by decide⟩) (show inR 99999 from ⟨by decide, by decide⟩) okq13 eq14) kv_X12_signed w1521 kd94 rfl rfl rfl rfl (Nat.le_of_ble_eq_true rfl) ⟨rfl, rfl, (Nat.le_of_ble_eq_true rfl), (Nat.le_of_ble_eq_true rfl)⟩ dX12_periodLine_204 (fun tq14 okq14 => ?_)
                refine at_if_ne (pc := 207) (tgt := 212) C (isB.r tq14) dX12_periodLine_207 rfl (fun c15 => ?_) (fun c15 => ?_)
                · have hF := (if_neg c15).symm.trans hF
                  refine at_aload_n (pc := 212) C 0 dX12_periodLine_212 rfl rfl ?_
                  refine at_getr (pc := 213) (k' := 98) C 4 fw_12_23 kd94 rfl (Nat.le_of_ble_eq_true rfl) rfl rfl dX12_periodLine_213 ?_
                  refine at_iload_n (pc := 216) C 1 dX12_periodLine_216 rfl rfl ?_
                  refine at_iconst (pc := 217) C dX12_periodLine_217 ?_
                  refine at_iadd (pc := 218) C dX12_periodLine_218 ?_
                  refine at_aload_n (pc := 219) C 0 dX12_periodLine_219 rfl rfl ?_
                  refine at_geti (pc := 220) (jz := 22) C fw_12_169 kd94 rfl (Nat.le_of_ble_eq_true rfl) rfl rfl dX12_periodLine_220 ?_
                  obtain ⟨b16, hF⟩ := inb_some hF
                  refine at_iastore (pc := 223) C kd98 b16 dX12_periodLine_223 ?_
                  refine at_aload_n (pc := 224) C 0 dX12_periodLine_224 rfl rfl ?_
                  refine at_dup (pc := 225) C dX12_periodLine_225 rfl ?_
                  refine at_geti (pc := 226) (jz := 15) C fw_12_123 kd94 rfl (Nat.le_of_ble_eq_true rfl) rfl rfl dX12_periodLine_226 ?_
                  refine at_iconst (pc := 229) C dX12_periodLine_229 ?_
                  refine at_iadd (pc := 230) C dX12_periodLine_230 ?_
                  refine at_puti (pc := 231) (jz := 15) C fu_12_123 kd94 rfl (Nat.le_of_ble_eq_true rfl) rfl rfl dX12_periodLine_231 ?_
                  refine at_iconst (pc := 234) C dX12_periodLine_234 ?_
                  obtain rfl := Option.some.inj hF
                  exact at_zret (pc := 235) C hr hlk (Or.inr rfl) (OK_up (k := 94) (j := 15) (OK_up (k := 98) (j := (ja v1 3)) okq14 (okq14 94 22)) (ja_R ((upI q14.2 98 (ja v1 3) (q14.2.1 94 22)).1 94 15) 1)) dX12_periodLine_235
                · have hF := (if_pos c15).symm.trans hF
                  refine at_iconst (pc := 210) C dX12_periodLine_210 ?_
                  obtain rfl := Option.some.inj hF
                  exact at_zret (pc := 211) C hr hlk (Or.inl rfl) okq14 dX12_periodLine_211
              refine at_iload_n (pc := 117) C 2 dX12_periodLine_117 rfl rfl ?_
              refine at_iload_n (pc := 118) C 1 dX12_periodLine_118 rfl rfl ?_
              refine at_icmp_ge (pc := 119) (tgt := 183) C h2 h1 dX12_periodLine_119 rfl (fun c17 => ?_) (fun c17 => ?_)
              · have hF := (if_pos c17).symm.trans hF
                refine at_sub (lv' := [(0, vr g 94), (1, vi v1)]) [0, 1] rfl ?_
                exact J183 v1 σ h1 ok hF
              · have hF := (if_neg c17).symm.trans hF
                have J177 : ∀ (v2 : Int), inR v2 → F_X12_periodLine_J177 N nx117 v1 v2 σ = some res → At p l e rm_X12_periodLine s m args below meth c 0 0 g 3 (MQ below (QI g s.heap.size res.1 res.2 isB) args s 0 0 (AA g s.heap.size)) 177 [(0, vr g 94), (1, vi v1), (2, vi v2)] [] σ := by
                  intro v2 h2 hF
                  unfold F_X12_periodLine_J177 at hF
                  refine at_iinc (pc := 177) (lv' := [(2, vi (ja v2 4)), (0, vr g 94), (1, vi v1)]) C 2 dX12_periodLine_177 rfl (Nat.le_of_ble_eq_true rfl) rfl ?_
                  refine at_goto (pc := 180) (tgt := 117) C dX12_periodLine_180 rfl ?_
                  refine at_sub (lv' := [(0, vr g 94), (1, vi v1), (2, vi (ja v2 4))]) [1, 2, 0] rfl ?_
                  exact ih117 _ hF (ja_R v2 4)
                refine at_aload_n (pc := 122) C 0 dX12_periodLine_122 rfl rfl ?_
                refine at_getr (pc := 123) (k' := 98) C 4 fw_12_23 kd94 rfl (Nat.le_of_ble_eq_true rfl) rfl rfl dX12_periodLine_123 ?_
                refine at_iload_n (pc := 126) C 2 dX12_periodLine_126 rfl rfl ?_
                obtain ⟨b18, hF⟩ := inb_some hF
                refine at_iaload (pc := 127) C kd98 b18 dX12_periodLine_127 ?_
                refine at_aload_n (pc := 128) C 0 dX12_periodLine_128 rfl rfl ?_
                refine at_getr (pc := 129) (k' := 98) C 4 fw_12_23 kd94 rfl (Nat.le_of_ble_eq_true rfl) rfl rfl dX12_periodLine_129 ?_
                refine at_iload_n (pc := 132) C 1 dX12_periodLine_132 rfl rfl ?_
                obtain ⟨b19, hF⟩ := inb_some hF
                refine at_iaload (pc := 133) C kd98 b19 dX12_periodLine_133 ?_
                refine at_icmp_ne (pc := 134) (tgt := 177) C (ok 98 v2) (ok 98 v1) dX12_periodLine_134 rfl (fun c20 => ?_) (fun c20 => ?_)
                · have hF := (if_neg c20).symm.trans hF
                  exact J177 v2 h2 hF
                · have hF := (if_pos c20).symm.trans hF
                  refine at_aload_n (pc := 137) C 0 dX12_periodLine_137 rfl rfl ?_
                  refine at_getr (pc := 138) (k' := 98) C 4 fw_12_23 kd94 rfl (Nat.le_of_ble_eq_true rfl) rfl rfl dX12_periodLine_138 ?_
                  refine at_iload_n (pc := 141) C 2 dX12_periodLine_141 rfl rfl ?_
                  refine at_iconst (pc := 142) C dX12_periodLine_142 ?_
                  refine at_iadd (pc := 143) C dX12_periodLine_143 ?_
                  obtain ⟨b21, hF⟩ := inb_some hF
                  refine at_iaload (pc := 144) C kd98 b21 dX12_periodLine_144 ?_
                  refine at_aload_n (pc := 145) C 0 dX12_periodLine_145 rfl rfl ?_
                  refine at_geti (pc := 146) (jz := 9) C fw_12_110 kd94 rfl (Nat.le_of_ble_eq_true rfl) rfl rfl dX12_periodLine_146 ?_
                  refine at_icmp_gt (pc := 149) (tgt := 177) C (ok 98 (ja v2 1)) (ok 94 9) dX12_periodLine_149 rfl (fun c22 => ?_) (fun c22 => ?_)
                  · have hF := (if_pos c22).symm.trans hF
                    exact J177 v2 h2 hF
                  · have hF := (if_neg c22).symm.trans hF
                    have J171 : ∀  (σ : Sto), OK σ → F_X12_periodLine_J171 N   σ = some res → At p l e rm_X12_periodLine s m args below meth c 0 0 g 3 (MQ below (QI g s.heap.size res.1 res.2 isB) args s 0 0 (AA g s.heap.size)) 171 [(0, vr g 94)] [] σ := by
                      intro σ ok hF
                      unfold F_X12_periodLine_J171 at hF
                      refine at_aload_n (pc := 171) C 0 dX12_periodLine_171 rfl rfl ?_
                      refine at_iconst (pc := 172) C dX12_periodLine_172 ?_
                      obtain ⟨q23, eq23, hF⟩ := bind_some' hF
                      refine at_callV (pc := 173) (ci := 12) C (c_X12_wrong l g N 3 σ q23 (show inR 3 from ⟨by decide, by decide⟩) ok eq23) kv_X12_wrong w1505 kd94 rfl rfl rfl rfl (Nat.le_of_ble_eq_true rfl) ⟨rfl, rfl, (Nat.le_of_ble_eq_true rfl), (Nat.le_of_ble_eq_true rfl)⟩ dX12_periodLine_173 (fun tq23 okq23 => ?_)
                      obtain rfl := Option.some.inj hF
                      exact at_zret (pc := 176) C hr hlk tq23 okq23 dX12_periodLine_176
                    refine at_aload_n (pc := 152) C 0 dX12_periodLine_152 rfl rfl ?_
                    refine at_getr (pc := 153) (k' := 98) C 4 fw_12_23 kd94 rfl (Nat.le_of_ble_eq_true rfl) rfl rfl dX12_periodLine_153 ?_
                    refine at_iload_n (pc := 156) C 1 dX12_periodLine_156 rfl rfl ?_
                    refine at_iconst (pc := 157) C dX12_periodLine_157 ?_
                    refine at_iadd (pc := 158) C dX12_periodLine_158 ?_
                    obtain ⟨b24, hF⟩ := inb_some hF
                    refine at_iaload (pc := 159) C kd98 b24 dX12_periodLine_159 ?_
                    refine at_aload_n (pc := 160) C 0 dX12_periodLine_160 rfl rfl ?_
                    refine at_getr (pc := 161) (k' := 98) C 4 fw_12_23 kd94 rfl (Nat.le_of_ble_eq_true rfl) rfl rfl dX12_periodLine_161 ?_
                    refine at_iload_n (pc := 164) C 2 dX12_periodLine_164 rfl rfl ?_
                    refine at_iconst (pc := 165) C dX12_periodLine_165 ?_
                    refine at_iadd (pc := 166) C dX12_periodLine_166 ?_
                    obtain ⟨b25, hF⟩ := inb_some hF
                    refine at_iaload (pc := 167) C kd98 b25 dX12_periodLine_167 ?_
                    refine at_icmp_gt (pc := 168) (tgt := 177) C (ok 98 (ja v1 1)) (ok 98 (ja v2 2)) dX12_periodLine_168 rfl (fun c26 => ?_) (fun c26 => ?_)
                    · have hF := (if_pos c26).symm.trans hF
                      exact J177 v2 h2 hF
                    · have hF := (if_neg c26).symm.trans hF
                      refine at_sub (lv' := [(0, vr g 94)]) [0] rfl ?_
                      exact J171 σ ok hF
            refine at_sub (lv' := [(0, vr g 94), (1, vi (ja 48 (jm 4 (σ.1 94 15)))), (2, vi 48)]) [2, 1, 0] rfl ?_
            exact L117 (ja 48 (jm 4 (σ.1 94 15))) 48 (upI q6.2 98 (ja (ja 48 (jm 4 (σ.1 94 15))) 1) (q6.2.1 94 22)) (ja_R 48 (jm 4 (σ.1 94 15))) (show inR 48 from ⟨by decide, by decide⟩) (OK_up (k := 98) (j := (ja (ja 48 (jm 4 (σ.1 94 15))) 1)) okq6 (okq6 94 22)) hF
          · have hF := (if_pos c11).symm.trans hF
            refine at_aload_n (pc := 108) C 1 dX12_periodLine_108 rfl rfl ?_
            refine at_iconst (pc := 109) C dX12_periodLine_109 ?_
            obtain ⟨q27, eq27, hF⟩ := bind_some' hF
            refine at_callV (pc := 110) (ci := 12) C (c_X12_wrong l g N 2 (upI q6.2 98 (ja (ja 48 (jm 4 (σ.1 94 15))) 1) (q6.2.1 94 22)) q27 (show inR 2 from ⟨by decide, by decide⟩) (OK_up (k := 98) (j := (ja (ja 48 (jm 4 (σ.1 94 15))) 1)) okq6 (okq6 94 22)) eq27) kv_X12_wrong w1505 kd94 rfl rfl rfl rfl (Nat.le_of_ble_eq_true rfl) ⟨rfl, rfl, (Nat.le_of_ble_eq_true rfl), (Nat.le_of_ble_eq_true rfl)⟩ dX12_periodLine_110 (fun tq27 okq27 => ?_)
            obtain rfl := Option.some.inj hF
            exact at_zret (pc := 113) C hr hlk tq27 okq27 dX12_periodLine_113
        · have hF := (if_neg c9).symm.trans hF
          refine at_aload_n (pc := 81) C 1 dX12_periodLine_81 rfl rfl ?_
          refine at_iconst (pc := 82) C dX12_periodLine_82 ?_
          obtain ⟨q28, eq28, hF⟩ := bind_some' hF
          refine at_callV (pc := 83) (ci := 12) C (c_X12_wrong l g N 1 (upI q6.2 98 (ja (ja 48 (jm 4 (σ.1 94 15))) 1) (q6.2.1 94 22)) q28 (isB.r (Or.inr rfl)) (OK_up (k := 98) (j := (ja (ja 48 (jm 4 (σ.1 94 15))) 1)) okq6 (okq6 94 22)) eq28) kv_X12_wrong w1505 kd94 rfl rfl rfl rfl (Nat.le_of_ble_eq_true rfl) ⟨rfl, rfl, (Nat.le_of_ble_eq_true rfl), (Nat.le_of_ble_eq_true rfl)⟩ dX12_periodLine_83 (fun tq28 okq28 => ?_)
          obtain rfl := Option.some.inj hF
          exact at_zret (pc := 86) C hr hlk tq28 okq28 dX12_periodLine_86
      · have hF := (if_pos c7).symm.trans hF
        refine at_iconst (pc := 59) C dX12_periodLine_59 ?_
        obtain rfl := Option.some.inj hF
        exact at_zret (pc := 60) C hr hlk (Or.inl rfl) okq6 dX12_periodLine_60
    · have hF := (if_pos c3).symm.trans hF
      refine at_iconst (pc := 32) C dX12_periodLine_32 ?_
      obtain rfl := Option.some.inj hF
      exact at_zret (pc := 33) C hr hlk (Or.inl rfl) okq2 dX12_periodLine_33
  · have hF := (if_pos c1).symm.trans hF
    refine at_aload_n (pc := 9) C 0 dX12_periodLine_9 rfl rfl ?_
    refine at_iconst (pc := 10) C dX12_periodLine_10 ?_
    obtain ⟨q29, eq29, hF⟩ := bind_some' hF
    refine at_callV (pc := 11) (ci := 12) C (c_X12_wrong l g N 2 σ q29 (show inR 2 from ⟨by decide, by decide⟩) ok eq29) kv_X12_wrong w1505 kd94 rfl rfl rfl rfl (Nat.le_of_ble_eq_true rfl) ⟨rfl, rfl, (Nat.le_of_ble_eq_true rfl), (Nat.le_of_ble_eq_true rfl)⟩ dX12_periodLine_11 (fun tq29 okq29 => ?_)
    obtain rfl := Option.some.inj hF
    exact at_zret (pc := 14) C hr hlk tq29 okq29 dX12_periodLine_14
