def Wr_X0_clear (v0 : Nat) (a : Nat) (j : Int) : Prop := (a = v0 ∧ j = 10) ∨ (a = v0 ∧ j = 11) ∨ (a = v0 ∧ j = 12) ∨ (a = v0 ∧ j = 13) ∨ (a = v0 + 8 ∧ j = 4) ∨ (a = v0 ∧ j = 8) ∨ (a = v0 ∧ j = 9)
theorem fr_X0_clear {N : Nat} {v0 : Nat} {σ : Sto} {res : Sto} (hF : F_X0_clear N v0 σ = some res) : Fr (Wr_X0_clear v0) σ res := by
  unfold F_X0_clear at hF
  obtain rfl := Option.some.inj hF
  exact (Fr_up (Fr_up (Fr_up (Fr_up (Fr_up (Fr_up (Fr_up Fr.rf (by unfold Wr_X0_clear; omega)) (by unfold Wr_X0_clear; omega)) (by unfold Wr_X0_clear; omega)) (by unfold Wr_X0_clear; omega)) (by unfold Wr_X0_clear; omega)) (by unfold Wr_X0_clear; omega)) (by unfold Wr_X0_clear; omega))
def Wr_X1_load (v0 : Nat) (v1 : Nat) (v2 : Nat) (v3 : Nat) (a : Nat) (j : Int) : Prop := ((v0 + 1 ≤ a ∧ a ≤ v0 + 4)) ∨ (a = v0 ∧ j = 11)
theorem fr_X1_load_J258 {N : Nat} {v1 : Nat} {v2 : Nat}  {nx154 : (Int × Sto) → Option (Sto)} {v0 : Nat} {v3 : Nat} {v4 : Int} {v5 : Int} {σ : Sto} {res : Sto} (hnx154 : ∀ q, nx154 q = some res → Fr (Wr_X1_load v0 v1 v2 v3) q.2 res) (hF : F_X1_load_J258 N nx154 v0 v3 v4 v5 σ = some res) : Fr (Wr_X1_load v0 v1 v2 v3) σ res := by
  unfold F_X1_load_J258 at hF
  exact Fr_tr Fr.rf (hnx154 _ hF)
theorem fr_X1_load_B154 {N : Nat} {v1 : Nat} {v2 : Nat}  {nx154 : (Int × Sto) → Option (Sto)} {v0 : Nat} {v3 : Nat} {v4 : Int} {v5 : Int} {σ : Sto} {res : Sto} (hnx154 : ∀ q, nx154 q = some res → Fr (Wr_X1_load v0 v1 v2 v3) q.2 res) (hF : F_X1_load_B154 N nx154 v0 v3 v4 v5 σ = some res) : Fr (Wr_X1_load v0 v1 v2 v3) σ res := by
  unfold F_X1_load_B154 at hF
  by_cases c1 : (σ.1 v3 3) ≤ v5
  · have hF := (if_pos c1).symm.trans hF
    obtain rfl := Option.some.inj hF
    exact Fr.rf
  · have hF := (if_neg c1).symm.trans hF
    obtain ⟨b2, hF⟩ := inb_some hF
    by_cases c3 : (jand (jshr v4 (σ.1 (v3 + 1) v5)) 1) = 0
    · have hF := (if_pos c3).symm.trans hF
      by_cases c4 : (jand (jshr v4 (σ.1 (v3 + 2) v5)) 1) = 0
      · have hF := (if_pos c4).symm.trans hF
        obtain ⟨b5, hF⟩ := inb_some hF
        obtain ⟨b6, hF⟩ := inb_some hF
        obtain ⟨b7, hF⟩ := inb_some hF
        exact Fr_tr (Fr_up (Fr_up (Fr_up Fr.rf (by unfold Wr_X1_load; omega)) (by unfold Wr_X1_load; omega)) (by unfold Wr_X1_load; omega)) (fr_X1_load_J258 hnx154 hF)
      · have hF := (if_neg c4).symm.trans hF
        exact fr_X1_load_J258 hnx154 hF
    · have hF := (if_neg c3).symm.trans hF
      exact fr_X1_load_J258 hnx154 hF
theorem fr_X1_load_J151 {N : Nat} {v1 : Nat} {v2 : Nat}   {v0 : Nat} {v3 : Nat} {v4 : Int} {σ : Sto} {res : Sto} (hF : F_X1_load_J151 N  v0 v3 v4 σ = some res) : Fr (Wr_X1_load v0 v1 v2 v3) σ res := by
  unfold F_X1_load_J151 at hF
  exact (loopK_ind (res := res) (P := fun (q : Int × Sto) => Fr (Wr_X1_load v0 v1 v2 v3) q.2 res) (fun nx q hn hF => fr_X1_load_B154 hn hF) N _ hF)
theorem fr_X1_load_J145 {N : Nat}  {nx11 : (Int × Sto) → Option (Sto)} {v0 : Nat} {v1 : Nat} {v2 : Nat} {v3 : Nat} {v4 : Int} {v5 : Int} {σ : Sto} {res : Sto} (hnx11 : ∀ q, nx11 q = some res → Fr (Wr_X1_load v0 v1 v2 v3) q.2 res) (hF : F_X1_load_J145 N nx11 v0 v1 v2 v3 v4 v5 σ = some res) : Fr (Wr_X1_load v0 v1 v2 v3) σ res := by
  unfold F_X1_load_J145 at hF
  exact Fr_tr Fr.rf (hnx11 _ hF)
theorem fr_X1_load_B88 {N : Nat}  {nx11 : (Int × Sto) → Option (Sto)} {nx88 : (Int × Sto) → Option (Sto)} {v0 : Nat} {v1 : Nat} {v2 : Nat} {v3 : Nat} {v4 : Int} {v5 : Int} {v7 : Int} {σ : Sto} {res : Sto} (hnx11 : ∀ q, nx11 q = some res → Fr (Wr_X1_load v0 v1 v2 v3) q.2 res) (hnx88 : ∀ q, nx88 q = some res → Fr (Wr_X1_load v0 v1 v2 v3) q.2 res) (hF : F_X1_load_B88 N nx11 nx88 v0 v1 v2 v3 v4 v5 v7 σ = some res) : Fr (Wr_X1_load v0 v1 v2 v3) σ res := by
  unfold F_X1_load_B88 at hF
  by_cases c10 : (σ.1 v0 11) ≤ v7
  · have hF := (if_pos c10).symm.trans hF
    exact fr_X1_load_J145 hnx11 hF
  · have hF := (if_neg c10).symm.trans hF
    obtain ⟨b11, hF⟩ := inb_some hF
    exact Fr_tr (Fr_up (Fr_up Fr.rf (by unfold Wr_X1_load; omega)) (by unfold Wr_X1_load; omega)) (hnx88 _ hF)
theorem fr_X1_load_J84 {N : Nat}  {nx11 : (Int × Sto) → Option (Sto)} {v0 : Nat} {v1 : Nat} {v2 : Nat} {v3 : Nat} {v4 : Int} {v5 : Int} {t1 : Int} {t2 : Int} {σ : Sto} {res : Sto} (hnx11 : ∀ q, nx11 q = some res → Fr (Wr_X1_load v0 v1 v2 v3) q.2 res) (hF : F_X1_load_J84 N nx11 v0 v1 v2 v3 v4 v5 t1 t2 σ = some res) : Fr (Wr_X1_load v0 v1 v2 v3) σ res := by
  unfold F_X1_load_J84 at hF
  obtain ⟨b9, hF⟩ := inb_some hF
  exact Fr_tr (Fr_up Fr.rf (by unfold Wr_X1_load; omega)) (loopK_ind (res := res) (P := fun (q : Int × Sto) => Fr (Wr_X1_load v0 v1 v2 v3) q.2 res) (fun nx q hn hF => fr_X1_load_B88 hnx11 hn hF) N _ hF)
theorem fr_X1_load_J58 {N : Nat}  {nx11 : (Int × Sto) → Option (Sto)} {v0 : Nat} {v1 : Nat} {v2 : Nat} {v3 : Nat} {v4 : Int} {v5 : Int} {v6 : Int} {t1 : Int} {t2 : Int} {σ : Sto} {res : Sto} (hnx11 : ∀ q, nx11 q = some res → Fr (Wr_X1_load v0 v1 v2 v3) q.2 res) (hF : F_X1_load_J58 N nx11 v0 v1 v2 v3 v4 v5 v6 t1 t2 σ = some res) : Fr (Wr_X1_load v0 v1 v2 v3) σ res := by
  unfold F_X1_load_J58 at hF
  obtain ⟨b12, hF⟩ := inb_some hF
  by_cases c13 : v6 = 0
  · have hF := (if_pos c13).symm.trans hF
    exact Fr_tr (Fr_up Fr.rf (by unfold Wr_X1_load; omega)) (fr_X1_load_J84 hnx11 hF)
  · have hF := (if_neg c13).symm.trans hF
    obtain ⟨b14, hF⟩ := inb_some hF
    exact Fr_tr (Fr_up Fr.rf (by unfold Wr_X1_load; omega)) (fr_X1_load_J84 hnx11 hF)
theorem fr_X1_load_J35 {N : Nat}  {nx11 : (Int × Sto) → Option (Sto)} {v0 : Nat} {v1 : Nat} {v2 : Nat} {v3 : Nat} {v4 : Int} {v5 : Int} {t0 : Int} {σ : Sto} {res : Sto} (hnx11 : ∀ q, nx11 q = some res → Fr (Wr_X1_load v0 v1 v2 v3) q.2 res) (hF : F_X1_load_J35 N nx11 v0 v1 v2 v3 v4 v5 t0 σ = some res) : Fr (Wr_X1_load v0 v1 v2 v3) σ res := by
  unfold F_X1_load_J35 at hF
  by_cases c15 : t0 = 0
  · have hF := (if_pos c15).symm.trans hF
    exact fr_X1_load_J58 hnx11 hF
  · have hF := (if_neg c15).symm.trans hF
    obtain ⟨q16, eq16, hF⟩ := bind_some' hF
    exact fr_X1_load_J58 hnx11 hF
theorem fr_X1_load_B11 {N : Nat}  {nx11 : (Int × Sto) → Option (Sto)} {v0 : Nat} {v1 : Nat} {v2 : Nat} {v3 : Nat} {v4 : Int} {v5 : Int} {σ : Sto} {res : Sto} (hnx11 : ∀ q, nx11 q = some res → Fr (Wr_X1_load v0 v1 v2 v3) q.2 res) (hF : F_X1_load_B11 N nx11 v0 v1 v2 v3 v4 v5 σ = some res) : Fr (Wr_X1_load v0 v1 v2 v3) σ res := by
  unfold F_X1_load_B11 at hF
  by_cases c8 : (σ.1 v0 11) ≤ v5
  · have hF := (if_pos c8).symm.trans hF
    exact fr_X1_load_J151  hF
  · have hF := (if_neg c8).symm.trans hF
    by_cases c17 : (jand (jshr v4 v5) 1) = 0
    · have hF := (if_pos c17).symm.trans hF
      exact fr_X1_load_J35 hnx11 hF
    · have hF := (if_neg c17).symm.trans hF
      exact fr_X1_load_J35 hnx11 hF
theorem fr_X1_load {N : Nat} {v0 : Nat} {v1 : Nat} {v2 : Nat} {v3 : Nat} {v4 : Int} {σ : Sto} {res : Sto} (hF : F_X1_load N v0 v1 v2 v3 v4 σ = some res) : Fr (Wr_X1_load v0 v1 v2 v3) σ res := by
  unfold F_X1_load at hF
  exact Fr_tr (Fr_up Fr.rf (by unfold Wr_X1_load; omega)) (loopK_ind (res := res) (P := fun (q : Int × Sto) => Fr (Wr_X1_load v0 v1 v2 v3) q.2 res) (fun nx q hn hF => fr_X1_load_B11 hn hF) N _ hF)
def Wr_X1_improve (v0 : Nat) (a : Nat) (j : Int) : Prop := ((v0 + 6 ≤ a ∧ a ≤ v0 + 7))
theorem fr_X1_improve_J54 {N : Nat}   {v0 : Nat} {v1 : Int} {v4 : Int} {v5 : Int} {σ : Sto} {res : Int × Sto} (hF : F_X1_improve_J54 N  v0 v1 v4 v5 σ = some res) : Fr (Wr_X1_improve v0) σ res.2 := by
  unfold F_X1_improve_J54 at hF
  obtain ⟨b3, hF⟩ := inb_some hF
  obtain rfl := Option.some.inj hF
  exact (Fr_up (Fr_up Fr.rf (by unfold Wr_X1_improve; omega)) (by unfold Wr_X1_improve; omega))
theorem fr_X1_improve {N : Nat} {v0 : Nat} {v1 : Int} {v2 : Int} {v3 : Int} {σ : Sto} {res : Int × Sto} (hF : F_X1_improve N v0 v1 v2 v3 σ = some res) : Fr (Wr_X1_improve v0) σ res.2 := by
  unfold F_X1_improve at hF
  obtain ⟨b1, hF⟩ := inb_some hF
  by_cases c2 : (σ.1 (v0 + 7) v2) = 0
  · have hF := (if_pos c2).symm.trans hF
    obtain rfl := Option.some.inj hF
    exact Fr.rf
  · have hF := (if_neg c2).symm.trans hF
    obtain ⟨b4, hF⟩ := inb_some hF
    by_cases c5 : (σ.1 (v0 + 7) v1) = 0
    · have hF := (if_pos c5).symm.trans hF
      exact fr_X1_improve_J54  hF
    · have hF := (if_neg c5).symm.trans hF
      obtain ⟨q6, eq6, hF⟩ := bind_some' hF
      by_cases c7 : q6 = 0
      · have hF := (if_pos c7).symm.trans hF
        obtain rfl := Option.some.inj hF
        exact Fr.rf
      · have hF := (if_neg c7).symm.trans hF
        exact fr_X1_improve_J54  hF
def Wr_X1_improveAll (v0 : Nat) (a : Nat) (j : Int) : Prop := ((v0 + 6 ≤ a ∧ a ≤ v0 + 7))
theorem fr_X1_improveAll_J123 {N : Nat}  {nx4 : (Int × Int × Sto) → Option (Int × Sto)} {v0 : Nat} {v1 : Int} {v2 : Int} {σ : Sto} {res : Int × Sto} (hnx4 : ∀ q, nx4 q = some res → Fr (Wr_X1_improveAll v0) q.2.2 res.2) (hF : F_X1_improveAll_J123 N nx4 v0 v1 v2 σ = some res) : Fr (Wr_X1_improveAll v0) σ res.2 := by
  unfold F_X1_improveAll_J123 at hF
  exact Fr_tr Fr.rf (hnx4 _ hF)
theorem fr_X1_improveAll_J117 {N : Nat}  {nx4 : (Int × Int × Sto) → Option (Int × Sto)} {nx14 : (Int × Int × Sto) → Option (Int × Sto)} {v0 : Nat} {v1 : Int} {v2 : Int} {v3 : Int} {σ : Sto} {res : Int × Sto} (hnx4 : ∀ q, nx4 q = some res → Fr (Wr_X1_improveAll v0) q.2.2 res.2) (hnx14 : ∀ q, nx14 q = some res → Fr (Wr_X1_improveAll v0) q.2.2 res.2) (hF : F_X1_improveAll_J117 N nx4 nx14 v0 v1 v2 v3 σ = some res) : Fr (Wr_X1_improveAll v0) σ res.2 := by
  unfold F_X1_improveAll_J117 at hF
  exact Fr_tr Fr.rf (hnx14 _ hF)
theorem fr_X1_improveAll_J81 {N : Nat}  {nx4 : (Int × Int × Sto) → Option (Int × Sto)} {nx14 : (Int × Int × Sto) → Option (Int × Sto)} {v0 : Nat} {v1 : Int} {v2 : Int} {v3 : Int} {v4 : Int} {σ : Sto} {res : Int × Sto} (hnx4 : ∀ q, nx4 q = some res → Fr (Wr_X1_improveAll v0) q.2.2 res.2) (hnx14 : ∀ q, nx14 q = some res → Fr (Wr_X1_improveAll v0) q.2.2 res.2) (hF : F_X1_improveAll_J81 N nx4 nx14 v0 v1 v2 v3 v4 σ = some res) : Fr (Wr_X1_improveAll v0) σ res.2 := by
  unfold F_X1_improveAll_J81 at hF
  obtain ⟨b5, hF⟩ := inb_some hF
  by_cases c6 : (σ.1 (v0 + 1) v3) ≤ 0
  · have hF := (if_pos c6).symm.trans hF
    exact fr_X1_improveAll_J117 hnx4 hnx14 hF
  · have hF := (if_neg c6).symm.trans hF
    obtain ⟨b7, hF⟩ := inb_some hF
    by_cases c8 : (σ.1 (v0 + 5) v4) ≤ 0
    · have hF := (if_pos c8).symm.trans hF
      exact fr_X1_improveAll_J117 hnx4 hnx14 hF
    · have hF := (if_neg c8).symm.trans hF
      obtain ⟨q9, eq9, hF⟩ := bind_some' hF
      exact Fr_tr (Fr_tr Fr.rf (Fr_mono (fr_X1_improve eq9) (fun a j h => by unfold Wr_X1_improve at h; unfold Wr_X1_improveAll; omega))) (fr_X1_improveAll_J117 hnx4 hnx14 hF)
theorem fr_X1_improveAll_B14 {N : Nat}  {nx4 : (Int × Int × Sto) → Option (Int × Sto)} {nx14 : (Int × Int × Sto) → Option (Int × Sto)} {v0 : Nat} {v2 : Int} {v1 : Int} {v3 : Int} {σ : Sto} {res : Int × Sto} (hnx4 : ∀ q, nx4 q = some res → Fr (Wr_X1_improveAll v0) q.2.2 res.2) (hnx14 : ∀ q, nx14 q = some res → Fr (Wr_X1_improveAll v0) q.2.2 res.2) (hF : F_X1_improveAll_B14 N nx4 nx14 v0 v2 v1 v3 σ = some res) : Fr (Wr_X1_improveAll v0) σ res.2 := by
  unfold F_X1_improveAll_B14 at hF
  obtain ⟨b2, hF⟩ := inb_some hF
  by_cases c3 : 0 ≤ (σ.1 (v0 + 1) v2)
  · have hF := (if_pos c3).symm.trans hF
    exact fr_X1_improveAll_J123 hnx4 hF
  · have hF := (if_neg c3).symm.trans hF
    by_cases c4 : (σ.1 v0 11) ≤ v3
    · have hF := (if_pos c4).symm.trans hF
      exact fr_X1_improveAll_J123 hnx4 hF
    · have hF := (if_neg c4).symm.trans hF
      obtain ⟨b10, hF⟩ := inb_some hF
      by_cases c11 : (σ.1 (v0 + 1) v3) ≤ 0
      · have hF := (if_pos c11).symm.trans hF
        exact fr_X1_improveAll_J81 hnx4 hnx14 hF
      · have hF := (if_neg c11).symm.trans hF
        obtain ⟨b12, hF⟩ := inb_some hF
        by_cases c13 : (σ.1 (v0 + 3) (ja (jm v2 12) v3)) ≤ (σ.1 (v0 + 5) (ja (jm v2 12) v3))
        · have hF := (if_pos c13).symm.trans hF
          exact fr_X1_improveAll_J81 hnx4 hnx14 hF
        · have hF := (if_neg c13).symm.trans hF
          obtain ⟨q14, eq14, hF⟩ := bind_some' hF
          exact Fr_tr (Fr_tr Fr.rf (Fr_mono (fr_X1_improve eq14) (fun a j h => by unfold Wr_X1_improve at h; unfold Wr_X1_improveAll; omega))) (fr_X1_improveAll_J81 hnx4 hnx14 hF)
theorem fr_X1_improveAll_B4 {N : Nat}  {nx4 : (Int × Int × Sto) → Option (Int × Sto)} {v0 : Nat} {v1 : Int} {v2 : Int} {σ : Sto} {res : Int × Sto} (hnx4 : ∀ q, nx4 q = some res → Fr (Wr_X1_improveAll v0) q.2.2 res.2) (hF : F_X1_improveAll_B4 N nx4 v0 v1 v2 σ = some res) : Fr (Wr_X1_improveAll v0) σ res.2 := by
  unfold F_X1_improveAll_B4 at hF
  by_cases c1 : (σ.1 v0 11) ≤ v2
  · have hF := (if_pos c1).symm.trans hF
    obtain rfl := Option.some.inj hF
    exact Fr.rf
  · have hF := (if_neg c1).symm.trans hF
    exact (loopK_ind (res := res) (P := fun (q : Int × Int × Sto) => Fr (Wr_X1_improveAll v0) q.2.2 res.2) (fun nx q hn hF => fr_X1_improveAll_B14 hnx4 hn hF) N _ hF)
theorem fr_X1_improveAll {N : Nat} {v0 : Nat} {σ : Sto} {res : Int × Sto} (hF : F_X1_improveAll N v0 σ = some res) : Fr (Wr_X1_improveAll v0) σ res.2 := by
  unfold F_X1_improveAll at hF
  exact (loopK_ind (res := res) (P := fun (q : Int × Int × Sto) => Fr (Wr_X1_improveAll v0) q.2.2 res.2) (fun nx q hn hF => fr_X1_improveAll_B4 hn hF) N _ hF)
def Wr_X1_measure (v0 : Nat) (a : Nat) (j : Int) : Prop := ((v0 + 6 ≤ a ∧ a ≤ v0 + 7))
theorem fr_X1_measure_B56 {N : Nat}  {nx56 : (Int × Int × Sto) → Option (Sto)} {v0 : Nat} {v1 : Int} {v2 : Int} {σ : Sto} {res : Sto} (hnx56 : ∀ q, nx56 q = some res → Fr (Wr_X1_measure v0) q.2.2 res) (hF : F_X1_measure_B56 N nx56 v0 v1 v2 σ = some res) : Fr (Wr_X1_measure v0) σ res := by
  unfold F_X1_measure_B56 at hF
  by_cases c1 : (σ.1 v0 11) < v2
  · have hF := (if_pos c1).symm.trans hF
    obtain rfl := Option.some.inj hF
    exact Fr.rf
  · have hF := (if_neg c1).symm.trans hF
    by_cases c2 : v1 = 0
    · have hF := (if_pos c2).symm.trans hF
      obtain rfl := Option.some.inj hF
      exact Fr.rf
    · have hF := (if_neg c2).symm.trans hF
      obtain ⟨q3, eq3, hF⟩ := bind_some' hF
      exact Fr_tr (Fr_tr Fr.rf (Fr_mono (fr_X1_improveAll eq3) (fun a j h => by unfold Wr_X1_improveAll at h; unfold Wr_X1_measure; omega))) (hnx56 _ hF)
theorem fr_X1_measure_J52 {N : Nat}   {v0 : Nat} {σ : Sto} {res : Sto} (hF : F_X1_measure_J52 N  v0 σ = some res) : Fr (Wr_X1_measure v0) σ res := by
  unfold F_X1_measure_J52 at hF
  exact (loopK_ind (res := res) (P := fun (q : Int × Int × Sto) => Fr (Wr_X1_measure v0) q.2.2 res) (fun nx q hn hF => fr_X1_measure_B56 hn hF) N _ hF)
theorem fr_X1_measure_J45 {N : Nat}  {nx2 : (Int × Sto) → Option (Sto)} {v0 : Nat} {v1 : Int} {t1 : Int} {t2 : Int} {σ : Sto} {res : Sto} (hnx2 : ∀ q, nx2 q = some res → Fr (Wr_X1_measure v0) q.2 res) (hF : F_X1_measure_J45 N nx2 v0 v1 t1 t2 σ = some res) : Fr (Wr_X1_measure v0) σ res := by
  unfold F_X1_measure_J45 at hF
  obtain ⟨b5, hF⟩ := inb_some hF
  exact Fr_tr (Fr_up Fr.rf (by unfold Wr_X1_measure; omega)) (hnx2 _ hF)
theorem fr_X1_measure_J44 {N : Nat}  {nx2 : (Int × Sto) → Option (Sto)} {v0 : Nat} {v1 : Int} {t1 : Int} {σ : Sto} {res : Sto} (hnx2 : ∀ q, nx2 q = some res → Fr (Wr_X1_measure v0) q.2 res) (hF : F_X1_measure_J44 N nx2 v0 v1 t1 σ = some res) : Fr (Wr_X1_measure v0) σ res := by
  unfold F_X1_measure_J44 at hF
  exact fr_X1_measure_J45 hnx2 hF
theorem fr_X1_measure_B2 {N : Nat}  {nx2 : (Int × Sto) → Option (Sto)} {v0 : Nat} {v1 : Int} {σ : Sto} {res : Sto} (hnx2 : ∀ q, nx2 q = some res → Fr (Wr_X1_measure v0) q.2 res) (hF : F_X1_measure_B2 N nx2 v0 v1 σ = some res) : Fr (Wr_X1_measure v0) σ res := by
  unfold F_X1_measure_B2 at hF
  by_cases c4 : (σ.1 v0 11) ≤ v1
  · have hF := (if_pos c4).symm.trans hF
    exact fr_X1_measure_J52  hF
  · have hF := (if_neg c4).symm.trans hF
    obtain ⟨b6, hF⟩ := inb_some hF
    by_cases c7 : ((upI σ (v0 + 6) v1 0).1 (v0 + 1) v1) ≤ 0
    · have hF := (if_pos c7).symm.trans hF
      exact Fr_tr (Fr_up Fr.rf (by unfold Wr_X1_measure; omega)) (fr_X1_measure_J44 hnx2 hF)
    · have hF := (if_neg c7).symm.trans hF
      by_cases c8 : ((upI σ (v0 + 6) v1 0).1 (v0 + 2) v1) ≤ 0
      · have hF := (if_pos c8).symm.trans hF
        exact Fr_tr (Fr_up Fr.rf (by unfold Wr_X1_measure; omega)) (fr_X1_measure_J44 hnx2 hF)
      · have hF := (if_neg c8).symm.trans hF
        exact Fr_tr (Fr_up Fr.rf (by unfold Wr_X1_measure; omega)) (fr_X1_measure_J45 hnx2 hF)
theorem fr_X1_measure {N : Nat} {v0 : Nat} {σ : Sto} {res : Sto} (hF : F_X1_measure N v0 σ = some res) : Fr (Wr_X1_measure v0) σ res := by
  unfold F_X1_measure at hF
  exact (loopK_ind (res := res) (P := fun (q : Int × Sto) => Fr (Wr_X1_measure v0) q.2 res) (fun nx q hn hF => fr_X1_measure_B2 hn hF) N _ hF)
def Wr_X1_findRoute (v0 : Nat) (a : Nat) (j : Int) : Prop := (a = v0 + 8) ∨ (a = v0 ∧ j = 9)
theorem fr_X1_findRoute_J172 {N : Nat} {v0 : Nat}    {σ : Sto} {res : Int × Sto} (hF : F_X1_findRoute_J172 N   σ = some res) : Fr (Wr_X1_findRoute v0) σ res.2 := by
  unfold F_X1_findRoute_J172 at hF
  obtain rfl := Option.some.inj hF
  exact Fr.rf
theorem fr_X1_findRoute_J140 {N : Nat}   {v0 : Nat} {σ : Sto} {res : Int × Sto} (hF : F_X1_findRoute_J140 N  v0 σ = some res) : Fr (Wr_X1_findRoute v0) σ res.2 := by
  unfold F_X1_findRoute_J140 at hF
  by_cases c1 : (σ.1 v0 9) ≤ 1
  · have hF := (if_pos c1).symm.trans hF
    exact fr_X1_findRoute_J172  hF
  · have hF := (if_neg c1).symm.trans hF
    obtain ⟨b2, hF⟩ := inb_some hF
    obtain ⟨b3, hF⟩ := inb_some hF
    by_cases c4 : (σ.1 (v0 + 7) (σ.1 (v0 + 8) (js (σ.1 v0 9) 1))) = 1
    · have hF := (if_pos c4).symm.trans hF
      obtain rfl := Option.some.inj hF
      exact Fr.rf
    · have hF := (if_neg c4).symm.trans hF
      exact fr_X1_findRoute_J172  hF
theorem fr_X1_findRoute_J133 {N : Nat}  {nx90 : (Int × Int × Sto) → Option (Int × Sto)} {v0 : Nat} {v3 : Int} {t0 : Int} {σ : Sto} {res : Int × Sto} (hnx90 : ∀ q, nx90 q = some res → Fr (Wr_X1_findRoute v0) q.2.2 res.2) (hF : F_X1_findRoute_J133 N nx90 v0 v3 t0 σ = some res) : Fr (Wr_X1_findRoute v0) σ res.2 := by
  unfold F_X1_findRoute_J133 at hF
  exact Fr_tr Fr.rf (hnx90 _ hF)
theorem fr_X1_findRoute_B90 {N : Nat}  {nx90 : (Int × Int × Sto) → Option (Int × Sto)} {v0 : Nat} {v2 : Int} {v3 : Int} {σ : Sto} {res : Int × Sto} (hnx90 : ∀ q, nx90 q = some res → Fr (Wr_X1_findRoute v0) q.2.2 res.2) (hF : F_X1_findRoute_B90 N nx90 v0 v2 v3 σ = some res) : Fr (Wr_X1_findRoute v0) σ res.2 := by
  unfold F_X1_findRoute_B90 at hF
  by_cases c5 : 12 ≤ v3
  · have hF := (if_pos c5).symm.trans hF
    exact fr_X1_findRoute_J140  hF
  · have hF := (if_neg c5).symm.trans hF
    by_cases c6 : v2 < 0
    · have hF := (if_pos c6).symm.trans hF
      exact fr_X1_findRoute_J140  hF
    · have hF := (if_neg c6).symm.trans hF
      obtain ⟨b7, hF⟩ := inb_some hF
      obtain ⟨b8, hF⟩ := inb_some hF
      by_cases c9 : ((upI (upI σ (v0 + 8) v3 v2) v0 9 (ja v3 1)).1 (v0 + 7) v2) ≤ 1
      · have hF := (if_pos c9).symm.trans hF
        exact Fr_tr (Fr_up (Fr_up Fr.rf (by unfold Wr_X1_findRoute; omega)) (by unfold Wr_X1_findRoute; omega)) (fr_X1_findRoute_J133 hnx90 hF)
      · have hF := (if_neg c9).symm.trans hF
        obtain ⟨q10, eq10, hF⟩ := bind_some' hF
        exact Fr_tr (Fr_up (Fr_up Fr.rf (by unfold Wr_X1_findRoute; omega)) (by unfold Wr_X1_findRoute; omega)) (fr_X1_findRoute_J133 hnx90 hF)
theorem fr_X1_findRoute_J81 {N : Nat}   {v0 : Nat} {v1 : Int} {σ : Sto} {res : Int × Sto} (hF : F_X1_findRoute_J81 N  v0 v1 σ = some res) : Fr (Wr_X1_findRoute v0) σ res.2 := by
  unfold F_X1_findRoute_J81 at hF
  exact Fr_tr (Fr_up Fr.rf (by unfold Wr_X1_findRoute; omega)) (loopK_ind (res := res) (P := fun (q : Int × Int × Sto) => Fr (Wr_X1_findRoute v0) q.2.2 res.2) (fun nx q hn hF => fr_X1_findRoute_B90 hn hF) N _ hF)
theorem fr_X1_findRoute_J75 {N : Nat}  {nx4 : (Int × Int) → Option (Int × Sto)} {v0 : Nat} {v1 : Int} {v2 : Int} {σ : Sto} {res : Int × Sto} (hnx4 : ∀ q, nx4 q = some res → Fr (Wr_X1_findRoute v0) σ res.2) (hF : F_X1_findRoute_J75 N nx4 v0 v1 v2 σ = some res) : Fr (Wr_X1_findRoute v0) σ res.2 := by
  unfold F_X1_findRoute_J75 at hF
  exact hnx4 _ hF
theorem fr_X1_findRoute_J73 {N : Nat}  {nx4 : (Int × Int) → Option (Int × Sto)} {v0 : Nat} {v2 : Int} {σ : Sto} {res : Int × Sto} (hnx4 : ∀ q, nx4 q = some res → Fr (Wr_X1_findRoute v0) σ res.2) (hF : F_X1_findRoute_J73 N nx4 v0 v2 σ = some res) : Fr (Wr_X1_findRoute v0) σ res.2 := by
  unfold F_X1_findRoute_J73 at hF
  exact fr_X1_findRoute_J75 hnx4 hF
theorem fr_X1_findRoute_J44 {N : Nat}  {nx4 : (Int × Int) → Option (Int × Sto)} {v0 : Nat} {v1 : Int} {v2 : Int} {t0 : Int} {σ : Sto} {res : Int × Sto} (hnx4 : ∀ q, nx4 q = some res → Fr (Wr_X1_findRoute v0) σ res.2) (hF : F_X1_findRoute_J44 N nx4 v0 v1 v2 t0 σ = some res) : Fr (Wr_X1_findRoute v0) σ res.2 := by
  unfold F_X1_findRoute_J44 at hF
  by_cases c12 : t0 = 0
  · have hF := (if_pos c12).symm.trans hF
    exact fr_X1_findRoute_J75 hnx4 hF
  · have hF := (if_neg c12).symm.trans hF
    by_cases c13 : v1 < 0
    · have hF := (if_pos c13).symm.trans hF
      exact fr_X1_findRoute_J73 hnx4 hF
    · have hF := (if_neg c13).symm.trans hF
      obtain ⟨b14, hF⟩ := inb_some hF
      obtain ⟨q15, eq15, hF⟩ := bind_some' hF
      by_cases c16 : q15 = 0
      · have hF := (if_pos c16).symm.trans hF
        exact fr_X1_findRoute_J75 hnx4 hF
      · have hF := (if_neg c16).symm.trans hF
        exact fr_X1_findRoute_J73 hnx4 hF
theorem fr_X1_findRoute_J43 {N : Nat}  {nx4 : (Int × Int) → Option (Int × Sto)} {v0 : Nat} {v1 : Int} {v2 : Int} {σ : Sto} {res : Int × Sto} (hnx4 : ∀ q, nx4 q = some res → Fr (Wr_X1_findRoute v0) σ res.2) (hF : F_X1_findRoute_J43 N nx4 v0 v1 v2 σ = some res) : Fr (Wr_X1_findRoute v0) σ res.2 := by
  unfold F_X1_findRoute_J43 at hF
  exact fr_X1_findRoute_J44 hnx4 hF
theorem fr_X1_findRoute_B4 {N : Nat}  {nx4 : (Int × Int) → Option (Int × Sto)} {v0 : Nat} {v1 : Int} {v2 : Int} {σ : Sto} {res : Int × Sto} (hnx4 : ∀ q, nx4 q = some res → Fr (Wr_X1_findRoute v0) σ res.2) (hF : F_X1_findRoute_B4 N nx4 v0 v1 v2 σ = some res) : Fr (Wr_X1_findRoute v0) σ res.2 := by
  unfold F_X1_findRoute_B4 at hF
  by_cases c11 : (σ.1 v0 11) ≤ v2
  · have hF := (if_pos c11).symm.trans hF
    exact fr_X1_findRoute_J81  hF
  · have hF := (if_neg c11).symm.trans hF
    obtain ⟨b17, hF⟩ := inb_some hF
    by_cases c18 : 0 ≤ (σ.1 (v0 + 1) v2)
    · have hF := (if_pos c18).symm.trans hF
      exact fr_X1_findRoute_J43 hnx4 hF
    · have hF := (if_neg c18).symm.trans hF
      by_cases c19 : (σ.1 (v0 + 2) v2) ≤ 0
      · have hF := (if_pos c19).symm.trans hF
        exact fr_X1_findRoute_J43 hnx4 hF
      · have hF := (if_neg c19).symm.trans hF
        by_cases c20 : (σ.1 (v0 + 7) v2) ≤ 0
        · have hF := (if_pos c20).symm.trans hF
          exact fr_X1_findRoute_J43 hnx4 hF
        · have hF := (if_neg c20).symm.trans hF
          exact fr_X1_findRoute_J44 hnx4 hF
theorem fr_X1_findRoute {N : Nat} {v0 : Nat} {σ : Sto} {res : Int × Sto} (hF : F_X1_findRoute N v0 σ = some res) : Fr (Wr_X1_findRoute v0) σ res.2 := by
  unfold F_X1_findRoute at hF
  exact (loopK_ind (res := res) (P := fun (q : Int × Int) => Fr (Wr_X1_findRoute v0) σ res.2) (fun nx q hn hF => fr_X1_findRoute_B4 hn hF) N _ hF)
def Wr_X1_takeRoute (v0 : Nat) (a : Nat) (j : Int) : Prop := (a = v0 + 2) ∨ (a = v0 + 5) ∨ (a = v0 + 9) ∨ (a = v0 ∧ j = 10) ∨ (a = v0 ∧ j = 12) ∨ (a = v0 ∧ j = 13)
theorem fr_X1_takeRoute_J228 {N : Nat}   {v0 : Nat} {σ : Sto} {res : Sto} (hF : F_X1_takeRoute_J228 N  v0 σ = some res) : Fr (Wr_X1_takeRoute v0) σ res := by
  unfold F_X1_takeRoute_J228 at hF
  obtain rfl := Option.some.inj hF
  exact (Fr_up Fr.rf (by unfold Wr_X1_takeRoute; omega))
theorem fr_X1_takeRoute_J163 {N : Nat}   {v0 : Nat} {v1 : Int} {v2 : Int} {σ : Sto} {res : Sto} (hF : F_X1_takeRoute_J163 N  v0 v1 v2 σ = some res) : Fr (Wr_X1_takeRoute v0) σ res := by
  unfold F_X1_takeRoute_J163 at hF
  obtain ⟨b5, hF⟩ := inb_some hF
  obtain ⟨b6, hF⟩ := inb_some hF
  obtain ⟨b7, hF⟩ := inb_some hF
  by_cases c8 : ((upI (upI (upI σ (v0 + 2) (σ.1 (v0 + 8) 0) (js (σ.1 (v0 + 2) (σ.1 (v0 + 8) 0)) v2)) (v0 + 2) v1 (js ((upI σ (v0 + 2) (σ.1 (v0 + 8) 0) (js (σ.1 (v0 + 2) (σ.1 (v0 + 8) 0)) v2)).1 (v0 + 2) v1) v2)) v0 13 (ja ((upI (upI σ (v0 + 2) (σ.1 (v0 + 8) 0) (js (σ.1 (v0 + 2) (σ.1 (v0 + 8) 0)) v2)) (v0 + 2) v1 (js ((upI σ (v0 + 2) (σ.1 (v0 + 8) 0) (js (σ.1 (v0 + 2) (σ.1 (v0 + 8) 0)) v2)).1 (v0 + 2) v1) v2)).1 v0 13) v2)).1 v0 12) = 0
  · have hF := (if_pos c8).symm.trans hF
    obtain ⟨y9, hF⟩ := grd_some hF
    exact Fr_tr (Fr_cp (Fr_up (Fr_up (Fr_up (Fr_up Fr.rf (by unfold Wr_X1_takeRoute; omega)) (by unfold Wr_X1_takeRoute; omega)) (by unfold Wr_X1_takeRoute; omega)) (by unfold Wr_X1_takeRoute; omega)) (fun j => (by unfold Wr_X1_takeRoute; omega))) (fr_X1_takeRoute_J228  hF)
  · have hF := (if_neg c8).symm.trans hF
    exact Fr_tr (Fr_up (Fr_up (Fr_up Fr.rf (by unfold Wr_X1_takeRoute; omega)) (by unfold Wr_X1_takeRoute; omega)) (by unfold Wr_X1_takeRoute; omega)) (fr_X1_takeRoute_J228  hF)
theorem fr_X1_takeRoute_J157 {N : Nat}  {nx76 : (Int × Sto) → Option (Sto)} {v0 : Nat} {v1 : Int} {v2 : Int} {v3 : Int} {σ : Sto} {res : Sto} (hnx76 : ∀ q, nx76 q = some res → Fr (Wr_X1_takeRoute v0) q.2 res) (hF : F_X1_takeRoute_J157 N nx76 v0 v1 v2 v3 σ = some res) : Fr (Wr_X1_takeRoute v0) σ res := by
  unfold F_X1_takeRoute_J157 at hF
  exact Fr_tr Fr.rf (hnx76 _ hF)
theorem fr_X1_takeRoute_B76 {N : Nat}  {nx76 : (Int × Sto) → Option (Sto)} {v0 : Nat} {v1 : Int} {v2 : Int} {v3 : Int} {σ : Sto} {res : Sto} (hnx76 : ∀ q, nx76 q = some res → Fr (Wr_X1_takeRoute v0) q.2 res) (hF : F_X1_takeRoute_B76 N nx76 v0 v1 v2 v3 σ = some res) : Fr (Wr_X1_takeRoute v0) σ res := by
  unfold F_X1_takeRoute_B76 at hF
  by_cases c10 : (σ.1 v0 9) ≤ (ja v3 1)
  · have hF := (if_pos c10).symm.trans hF
    exact fr_X1_takeRoute_J163  hF
  · have hF := (if_neg c10).symm.trans hF
    obtain ⟨b11, hF⟩ := inb_some hF
    obtain ⟨b12, hF⟩ := inb_some hF
    by_cases c13 : 0 ≤ (σ.1 (v0 + 1) (σ.1 (v0 + 8) v3))
    · have hF := (if_pos c13).symm.trans hF
      obtain ⟨b14, hF⟩ := inb_some hF
      obtain ⟨b15, hF⟩ := inb_some hF
      exact Fr_tr (Fr_up Fr.rf (by unfold Wr_X1_takeRoute; omega)) (fr_X1_takeRoute_J157 hnx76 hF)
    · have hF := (if_neg c13).symm.trans hF
      obtain ⟨b16, hF⟩ := inb_some hF
      obtain ⟨b17, hF⟩ := inb_some hF
      exact Fr_tr (Fr_up Fr.rf (by unfold Wr_X1_takeRoute; omega)) (fr_X1_takeRoute_J157 hnx76 hF)
theorem fr_X1_takeRoute_J74 {N : Nat}   {v0 : Nat} {v1 : Int} {v2 : Int} {σ : Sto} {res : Sto} (hF : F_X1_takeRoute_J74 N  v0 v1 v2 σ = some res) : Fr (Wr_X1_takeRoute v0) σ res := by
  unfold F_X1_takeRoute_J74 at hF
  exact (loopK_ind (res := res) (P := fun (q : Int × Sto) => Fr (Wr_X1_takeRoute v0) q.2 res) (fun nx q hn hF => fr_X1_takeRoute_B76 hn hF) N _ hF)
theorem fr_X1_takeRoute_B35 {N : Nat}  {nx35 : (Int × Int) → Option (Sto)} {v0 : Nat} {v1 : Int} {v2 : Int} {v3 : Int} {σ : Sto} {res : Sto} (hnx35 : ∀ q, nx35 q = some res → Fr (Wr_X1_takeRoute v0) σ res) (hF : F_X1_takeRoute_B35 N nx35 v0 v1 v2 v3 σ = some res) : Fr (Wr_X1_takeRoute v0) σ res := by
  unfold F_X1_takeRoute_B35 at hF
  by_cases c18 : (σ.1 v0 9) ≤ (ja v3 1)
  · have hF := (if_pos c18).symm.trans hF
    exact fr_X1_takeRoute_J74  hF
  · have hF := (if_neg c18).symm.trans hF
    obtain ⟨b19, hF⟩ := inb_some hF
    obtain ⟨b20, hF⟩ := inb_some hF
    obtain ⟨q21, eq21, hF⟩ := bind_some' hF
    exact hnx35 _ hF
theorem fr_X1_takeRoute {N : Nat} {v0 : Nat} {σ : Sto} {res : Sto} (hF : F_X1_takeRoute N v0 σ = some res) : Fr (Wr_X1_takeRoute v0) σ res := by
  unfold F_X1_takeRoute at hF
  obtain ⟨b1, hF⟩ := inb_some hF
  obtain ⟨b2, hF⟩ := inb_some hF
  obtain ⟨b3, hF⟩ := inb_some hF
  obtain ⟨b4, hF⟩ := inb_some hF
  exact (loopK_ind (res := res) (P := fun (q : Int × Int) => Fr (Wr_X1_takeRoute v0) σ res) (fun nx q hn hF => fr_X1_takeRoute_B35 hn hF) N _ hF)
def Wr_X1_run (v0 : Nat) (a : Nat) (j : Int) : Prop := (a = v0 + 2) ∨ ((v0 + 5 ≤ a ∧ a ≤ v0 + 9)) ∨ (a = v0 ∧ j = 10) ∨ (a = v0 ∧ j = 12) ∨ (a = v0 ∧ j = 13) ∨ (a = v0 ∧ j = 9)
theorem fr_X1_run_J70 {N : Nat}  {nx43 : (Int × Int × Sto) → Option (Sto)} {v0 : Nat} {v1 : Int} {v2 : Int} {σ : Sto} {res : Sto} (hnx43 : ∀ q, nx43 q = some res → Fr (Wr_X1_run v0) q.2.2 res) (hF : F_X1_run_J70 N nx43 v0 v1 v2 σ = some res) : Fr (Wr_X1_run v0) σ res := by
  unfold F_X1_run_J70 at hF
  exact Fr_tr Fr.rf (hnx43 _ hF)
theorem fr_X1_run_B43 {N : Nat}  {nx43 : (Int × Int × Sto) → Option (Sto)} {v0 : Nat} {v1 : Int} {v2 : Int} {σ : Sto} {res : Sto} (hnx43 : ∀ q, nx43 q = some res → Fr (Wr_X1_run v0) q.2.2 res) (hF : F_X1_run_B43 N nx43 v0 v1 v2 σ = some res) : Fr (Wr_X1_run v0) σ res := by
  unfold F_X1_run_B43 at hF
  by_cases c1 : 1000000 ≤ v2
  · have hF := (if_pos c1).symm.trans hF
    obtain rfl := Option.some.inj hF
    exact Fr.rf
  · have hF := (if_neg c1).symm.trans hF
    by_cases c2 : v1 = 0
    · have hF := (if_pos c2).symm.trans hF
      obtain rfl := Option.some.inj hF
      exact Fr.rf
    · have hF := (if_neg c2).symm.trans hF
      obtain ⟨q3, eq3, hF⟩ := bind_some' hF
      obtain ⟨q4, eq4, hF⟩ := bind_some' hF
      by_cases c5 : q4.1 = 0
      · have hF := (if_pos c5).symm.trans hF
        exact Fr_tr (Fr_tr (Fr_tr Fr.rf (Fr_mono (fr_X1_measure eq3) (fun a j h => by unfold Wr_X1_measure at h; unfold Wr_X1_run; omega))) (Fr_mono (fr_X1_findRoute eq4) (fun a j h => by unfold Wr_X1_findRoute at h; unfold Wr_X1_run; omega))) (fr_X1_run_J70 hnx43 hF)
      · have hF := (if_neg c5).symm.trans hF
        obtain ⟨q6, eq6, hF⟩ := bind_some' hF
        exact Fr_tr (Fr_tr (Fr_tr (Fr_tr Fr.rf (Fr_mono (fr_X1_measure eq3) (fun a j h => by unfold Wr_X1_measure at h; unfold Wr_X1_run; omega))) (Fr_mono (fr_X1_findRoute eq4) (fun a j h => by unfold Wr_X1_findRoute at h; unfold Wr_X1_run; omega))) (Fr_mono (fr_X1_takeRoute eq6) (fun a j h => by unfold Wr_X1_takeRoute at h; unfold Wr_X1_run; omega))) (fr_X1_run_J70 hnx43 hF)
theorem fr_X1_run_J24 {N : Nat}   {v0 : Nat} {σ : Sto} {res : Sto} (hF : F_X1_run_J24 N  v0 σ = some res) : Fr (Wr_X1_run v0) σ res := by
  unfold F_X1_run_J24 at hF
  exact Fr_tr (Fr_up (Fr_up (Fr_up Fr.rf (by unfold Wr_X1_run; omega)) (by unfold Wr_X1_run; omega)) (by unfold Wr_X1_run; omega)) (loopK_ind (res := res) (P := fun (q : Int × Int × Sto) => Fr (Wr_X1_run v0) q.2.2 res) (fun nx q hn hF => fr_X1_run_B43 hn hF) N _ hF)
theorem fr_X1_run_B2 {N : Nat}  {nx2 : (Int × Sto) → Option (Sto)} {v0 : Nat} {v1 : Int} {σ : Sto} {res : Sto} (hnx2 : ∀ q, nx2 q = some res → Fr (Wr_X1_run v0) q.2 res) (hF : F_X1_run_B2 N nx2 v0 v1 σ = some res) : Fr (Wr_X1_run v0) σ res := by
  unfold F_X1_run_B2 at hF
  by_cases c7 : 144 ≤ v1
  · have hF := (if_pos c7).symm.trans hF
    exact fr_X1_run_J24  hF
  · have hF := (if_neg c7).symm.trans hF
    obtain ⟨b8, hF⟩ := inb_some hF
    exact Fr_tr (Fr_up Fr.rf (by unfold Wr_X1_run; omega)) (hnx2 _ hF)
theorem fr_X1_run {N : Nat} {v0 : Nat} {σ : Sto} {res : Sto} (hF : F_X1_run N v0 σ = some res) : Fr (Wr_X1_run v0) σ res := by
  unfold F_X1_run at hF
  exact (loopK_ind (res := res) (P := fun (q : Int × Sto) => Fr (Wr_X1_run v0) q.2 res) (fun nx q hn hF => fr_X1_run_B2 hn hF) N _ hF)
def Wr_X2_clear (a : Nat) (j : Int) : Prop := (a = 33 ∧ j = 1)
theorem fr_X2_clear {N : Nat}  {σ : Sto} {res : Sto} (hF : F_X2_clear N  σ = some res) : Fr (Wr_X2_clear) σ res := by
  unfold F_X2_clear at hF
  obtain rfl := Option.some.inj hF
  exact (Fr_up Fr.rf (by unfold Wr_X2_clear; omega))
def Wr_X2_push (a : Nat) (j : Int) : Prop := (a = 34) ∨ (a = 33 ∧ j = 1)
theorem fr_X2_push_J30 {N : Nat}   {v1 : Int} {v2 : Int} {v3 : Int} {v4 : Int} {v5 : Int} {σ : Sto} {res : Sto} (hF : F_X2_push_J30 N  v1 v2 v3 v4 v5 σ = some res) : Fr (Wr_X2_push) σ res := by
  unfold F_X2_push_J30 at hF
  obtain ⟨b1, hF⟩ := inb_some hF
  obtain ⟨b2, hF⟩ := inb_some hF
  obtain ⟨b3, hF⟩ := inb_some hF
  obtain ⟨b4, hF⟩ := inb_some hF
  obtain ⟨b5, hF⟩ := inb_some hF
  obtain rfl := Option.some.inj hF
  exact (Fr_up (Fr_up (Fr_up (Fr_up (Fr_up (Fr_up Fr.rf (by unfold Wr_X2_push; omega)) (by unfold Wr_X2_push; omega)) (by unfold Wr_X2_push; omega)) (by unfold Wr_X2_push; omega)) (by unfold Wr_X2_push; omega)) (by unfold Wr_X2_push; omega))
theorem fr_X2_push {N : Nat} {v1 : Int} {v2 : Int} {v3 : Int} {v4 : Int} {v5 : Int} {σ : Sto} {res : Sto} (hF : F_X2_push N v1 v2 v3 v4 v5 σ = some res) : Fr (Wr_X2_push) σ res := by
  unfold F_X2_push at hF
  by_cases c6 : (σ.1 33 1) < 20
  · have hF := (if_pos c6).symm.trans hF
    exact fr_X2_push_J30  hF
  · have hF := (if_neg c6).symm.trans hF
    obtain ⟨y7, hF⟩ := grd_some hF
    exact Fr_tr (Fr_up (Fr_cp Fr.rf (fun j => (by unfold Wr_X2_push; omega))) (by unfold Wr_X2_push; omega)) (fr_X2_push_J30  hF)
def Wr_X2_pop (a : Nat) (j : Int) : Prop := (a = 33 ∧ j = 1)
theorem fr_X2_pop {N : Nat}  {σ : Sto} {res : Int × Sto} (hF : F_X2_pop N  σ = some res) : Fr (Wr_X2_pop) σ res.2 := by
  unfold F_X2_pop at hF
  obtain rfl := Option.some.inj hF
  exact (Fr_up Fr.rf (by unfold Wr_X2_pop; omega))
def Wr_X4_addStart (v0 : Nat) (a : Nat) (j : Int) : Prop := (a = v0 + 1) ∨ (a = v0 ∧ j = 2)
theorem fr_X4_addStart_J85 {N : Nat}   {v0 : Nat} {v1 : Int} {v2 : Int} {σ : Sto} {res : Sto} (hF : F_X4_addStart_J85 N  v0 v1 v2 σ = some res) : Fr (Wr_X4_addStart v0) σ res := by
  unfold F_X4_addStart_J85 at hF
  obtain ⟨b1, hF⟩ := inb_some hF
  obtain rfl := Option.some.inj hF
  exact (Fr_up (Fr_up Fr.rf (by unfold Wr_X4_addStart; omega)) (by unfold Wr_X4_addStart; omega))
theorem fr_X4_addStart_B51 {N : Nat}  {nx51 : (Int × Sto) → Option (Sto)} {v0 : Nat} {v1 : Int} {v2 : Int} {v3 : Int} {σ : Sto} {res : Sto} (hnx51 : ∀ q, nx51 q = some res → Fr (Wr_X4_addStart v0) q.2 res) (hF : F_X4_addStart_B51 N nx51 v0 v1 v2 v3 σ = some res) : Fr (Wr_X4_addStart v0) σ res := by
  unfold F_X4_addStart_B51 at hF
  by_cases c2 : v3 ≤ v2
  · have hF := (if_pos c2).symm.trans hF
    exact fr_X4_addStart_J85  hF
  · have hF := (if_neg c2).symm.trans hF
    by_cases c3 : 25 ≤ v3
    · have hF := (if_pos c3).symm.trans hF
      exact fr_X4_addStart_J85  hF
    · have hF := (if_neg c3).symm.trans hF
      obtain ⟨b4, hF⟩ := inb_some hF
      obtain ⟨b5, hF⟩ := inb_some hF
      exact Fr_tr (Fr_up Fr.rf (by unfold Wr_X4_addStart; omega)) (hnx51 _ hF)
theorem fr_X4_addStart_J46 {N : Nat}   {v0 : Nat} {v1 : Int} {v2 : Int} {σ : Sto} {res : Sto} (hF : F_X4_addStart_J46 N  v0 v1 v2 σ = some res) : Fr (Wr_X4_addStart v0) σ res := by
  unfold F_X4_addStart_J46 at hF
  exact (loopK_ind (res := res) (P := fun (q : Int × Sto) => Fr (Wr_X4_addStart v0) q.2 res) (fun nx q hn hF => fr_X4_addStart_B51 hn hF) N _ hF)
theorem fr_X4_addStart_B10 {N : Nat}  {nx10 : (Int × Int) → Option (Sto)} {v0 : Nat} {v1 : Int} {v2 : Int} {v3 : Int} {σ : Sto} {res : Sto} (hnx10 : ∀ q, nx10 q = some res → Fr (Wr_X4_addStart v0) σ res) (hF : F_X4_addStart_B10 N nx10 v0 v1 v2 v3 σ = some res) : Fr (Wr_X4_addStart v0) σ res := by
  unfold F_X4_addStart_B10 at hF
  by_cases c6 : v3 ≤ 0
  · have hF := (if_pos c6).symm.trans hF
    exact fr_X4_addStart_J46  hF
  · have hF := (if_neg c6).symm.trans hF
    obtain ⟨b7, hF⟩ := inb_some hF
    by_cases c8 : (σ.1 (v0 + 1) (js v2 1)) < v1
    · have hF := (if_pos c8).symm.trans hF
      exact fr_X4_addStart_J46  hF
    · have hF := (if_neg c8).symm.trans hF
      by_cases c9 : (σ.1 (v0 + 1) (js v2 1)) = v1
      · have hF := (if_pos c9).symm.trans hF
        obtain rfl := Option.some.inj hF
        exact Fr.rf
      · have hF := (if_neg c9).symm.trans hF
        exact hnx10 _ hF
theorem fr_X4_addStart {N : Nat} {v0 : Nat} {v1 : Int} {σ : Sto} {res : Sto} (hF : F_X4_addStart N v0 v1 σ = some res) : Fr (Wr_X4_addStart v0) σ res := by
  unfold F_X4_addStart at hF
  exact (loopK_ind (res := res) (P := fun (q : Int × Int) => Fr (Wr_X4_addStart v0) σ res) (fun nx q hn hF => fr_X4_addStart_B10 hn hF) N _ hF)
def Wr_X10_loadPercents (v1 : Nat) (a : Nat) (j : Int) : Prop := ((47 ≤ a ∧ a ≤ 48))
theorem fr_X10_loadPercents_J142 {N : Nat}  {nx64 : (Int × Sto) → Option (Sto)} {v1 : Nat} {v2 : Int} {v3 : Int} {σ : Sto} {res : Sto} (hnx64 : ∀ q, nx64 q = some res → Fr (Wr_X10_loadPercents v1) q.2 res) (hF : F_X10_loadPercents_J142 N nx64 v1 v2 v3 σ = some res) : Fr (Wr_X10_loadPercents v1) σ res := by
  unfold F_X10_loadPercents_J142 at hF
  exact Fr_tr Fr.rf (hnx64 _ hF)
theorem fr_X10_loadPercents_B64 {N : Nat}  {nx64 : (Int × Sto) → Option (Sto)} {v1 : Nat} {v2 : Int} {v3 : Int} {σ : Sto} {res : Sto} (hnx64 : ∀ q, nx64 q = some res → Fr (Wr_X10_loadPercents v1) q.2 res) (hF : F_X10_loadPercents_B64 N nx64 v1 v2 v3 σ = some res) : Fr (Wr_X10_loadPercents v1) σ res := by
  unfold F_X10_loadPercents_B64 at hF
  by_cases c1 : (σ.1 v1 4) ≤ v3
  · have hF := (if_pos c1).symm.trans hF
    obtain rfl := Option.some.inj hF
    exact Fr.rf
  · have hF := (if_neg c1).symm.trans hF
    obtain ⟨b2, hF⟩ := inb_some hF
    by_cases c3 : v2 < (σ.1 (v1 + 4) v3)
    · have hF := (if_pos c3).symm.trans hF
      exact fr_X10_loadPercents_J142 hnx64 hF
    · have hF := (if_neg c3).symm.trans hF
      obtain ⟨b4, hF⟩ := inb_some hF
      by_cases c5 : (σ.1 (v1 + 4) v3) < (σ.1 48 (ja (jm (σ.1 (v1 + 1) v3) 8) (σ.1 (v1 + 2) v3)))
      · have hF := (if_pos c5).symm.trans hF
        exact fr_X10_loadPercents_J142 hnx64 hF
      · have hF := (if_neg c5).symm.trans hF
        exact Fr_tr (Fr_up (Fr_up Fr.rf (by unfold Wr_X10_loadPercents; omega)) (by unfold Wr_X10_loadPercents; omega)) (fr_X10_loadPercents_J142 hnx64 hF)
theorem fr_X10_loadPercents_J62 {N : Nat}   {v1 : Nat} {v2 : Int} {σ : Sto} {res : Sto} (hF : F_X10_loadPercents_J62 N  v1 v2 σ = some res) : Fr (Wr_X10_loadPercents v1) σ res := by
  unfold F_X10_loadPercents_J62 at hF
  exact (loopK_ind (res := res) (P := fun (q : Int × Sto) => Fr (Wr_X10_loadPercents v1) q.2 res) (fun nx q hn hF => fr_X10_loadPercents_B64 hn hF) N _ hF)
theorem fr_X10_loadPercents_J56 {N : Nat}  {nx2 : (Int × Sto) → Option (Sto)} {v1 : Nat} {v2 : Int} {v3 : Int} {σ : Sto} {res : Sto} (hnx2 : ∀ q, nx2 q = some res → Fr (Wr_X10_loadPercents v1) q.2 res) (hF : F_X10_loadPercents_J56 N nx2 v1 v2 v3 σ = some res) : Fr (Wr_X10_loadPercents v1) σ res := by
  unfold F_X10_loadPercents_J56 at hF
  exact Fr_tr Fr.rf (hnx2 _ hF)
theorem fr_X10_loadPercents_B15 {N : Nat}  {nx2 : (Int × Sto) → Option (Sto)} {nx15 : (Int × Sto) → Option (Sto)} {v1 : Nat} {v2 : Int} {v3 : Int} {v4 : Int} {σ : Sto} {res : Sto} (hnx2 : ∀ q, nx2 q = some res → Fr (Wr_X10_loadPercents v1) q.2 res) (hnx15 : ∀ q, nx15 q = some res → Fr (Wr_X10_loadPercents v1) q.2 res) (hF : F_X10_loadPercents_B15 N nx2 nx15 v1 v2 v3 v4 σ = some res) : Fr (Wr_X10_loadPercents v1) σ res := by
  unfold F_X10_loadPercents_B15 at hF
  by_cases c7 : (σ.1 46 5) ≤ v4
  · have hF := (if_pos c7).symm.trans hF
    exact fr_X10_loadPercents_J56 hnx2 hF
  · have hF := (if_neg c7).symm.trans hF
    obtain ⟨b8, hF⟩ := inb_some hF
    exact Fr_tr (Fr_up (Fr_up Fr.rf (by unfold Wr_X10_loadPercents; omega)) (by unfold Wr_X10_loadPercents; omega)) (hnx15 _ hF)
theorem fr_X10_loadPercents_B2 {N : Nat}  {nx2 : (Int × Sto) → Option (Sto)} {v1 : Nat} {v2 : Int} {v3 : Int} {σ : Sto} {res : Sto} (hnx2 : ∀ q, nx2 q = some res → Fr (Wr_X10_loadPercents v1) q.2 res) (hF : F_X10_loadPercents_B2 N nx2 v1 v2 v3 σ = some res) : Fr (Wr_X10_loadPercents v1) σ res := by
  unfold F_X10_loadPercents_B2 at hF
  by_cases c6 : (σ.1 46 5) ≤ v3
  · have hF := (if_pos c6).symm.trans hF
    exact fr_X10_loadPercents_J62  hF
  · have hF := (if_neg c6).symm.trans hF
    exact (loopK_ind (res := res) (P := fun (q : Int × Sto) => Fr (Wr_X10_loadPercents v1) q.2 res) (fun nx q hn hF => fr_X10_loadPercents_B15 hnx2 hn hF) N _ hF)
theorem fr_X10_loadPercents {N : Nat} {v1 : Nat} {v2 : Int} {σ : Sto} {res : Sto} (hF : F_X10_loadPercents N v1 v2 σ = some res) : Fr (Wr_X10_loadPercents v1) σ res := by
  unfold F_X10_loadPercents at hF
  exact (loopK_ind (res := res) (P := fun (q : Int × Sto) => Fr (Wr_X10_loadPercents v1) q.2 res) (fun nx q hn hF => fr_X10_loadPercents_B2 hn hF) N _ hF)
def Wr_X10_loadParts (a : Nat) (j : Int) : Prop := (a = 49)
theorem fr_X10_loadParts_J75 {N : Nat}  {nx18 : (Int × Sto) → Option (Sto)} {v1 : Int} {v2 : Int} {v3 : Int} {v4 : UInt32} {σ : Sto} {res : Sto} (hnx18 : ∀ q, nx18 q = some res → Fr (Wr_X10_loadParts) q.2 res) (hF : F_X10_loadParts_J75 N nx18 v1 v2 v3 v4 σ = some res) : Fr (Wr_X10_loadParts) σ res := by
  unfold F_X10_loadParts_J75 at hF
  obtain ⟨b3, hF⟩ := inb_some hF
  exact Fr_tr (Fr_uf Fr.rf (by unfold Wr_X10_loadParts; omega)) (hnx18 _ hF)
theorem fr_X10_loadParts_B32 {N : Nat}  {nx18 : (Int × Sto) → Option (Sto)} {nx32 : (UInt32 × Int) → Option (Sto)} {v1 : Int} {v2 : Int} {v3 : Int} {v4 : UInt32} {v5 : Int} {σ : Sto} {res : Sto} (hnx18 : ∀ q, nx18 q = some res → Fr (Wr_X10_loadParts) q.2 res) (hnx32 : ∀ q, nx32 q = some res → Fr (Wr_X10_loadParts) σ res) (hF : F_X10_loadParts_B32 N nx18 nx32 v1 v2 v3 v4 v5 σ = some res) : Fr (Wr_X10_loadParts) σ res := by
  unfold F_X10_loadParts_B32 at hF
  by_cases c4 : v3 ≤ v5
  · have hF := (if_pos c4).symm.trans hF
    exact fr_X10_loadParts_J75 hnx18 hF
  · have hF := (if_neg c4).symm.trans hF
    obtain ⟨b5, hF⟩ := inb_some hF
    obtain ⟨b6, hF⟩ := inb_some hF
    obtain ⟨n7, hF⟩ := grd_some hF
    obtain ⟨n8, hF⟩ := grd_some hF
    obtain ⟨n9, hF⟩ := grd_some hF
    exact hnx32 _ hF
theorem fr_X10_loadParts_B18 {N : Nat}  {nx18 : (Int × Sto) → Option (Sto)} {v1 : Int} {v2 : Int} {v3 : Int} {σ : Sto} {res : Sto} (hnx18 : ∀ q, nx18 q = some res → Fr (Wr_X10_loadParts) q.2 res) (hF : F_X10_loadParts_B18 N nx18 v1 v2 v3 σ = some res) : Fr (Wr_X10_loadParts) σ res := by
  unfold F_X10_loadParts_B18 at hF
  by_cases c2 : (σ.1 46 5) ≤ v3
  · have hF := (if_pos c2).symm.trans hF
    obtain rfl := Option.some.inj hF
    exact Fr.rf
  · have hF := (if_neg c2).symm.trans hF
    exact (loopK_ind (res := res) (P := fun (q : UInt32 × Int) => Fr (Wr_X10_loadParts) σ res) (fun nx q hn hF => fr_X10_loadParts_B32 hnx18 hn hF) N _ hF)
theorem fr_X10_loadParts {N : Nat} {v1 : Int} {σ : Sto} {res : Sto} (hF : F_X10_loadParts N v1 σ = some res) : Fr (Wr_X10_loadParts) σ res := by
  unfold F_X10_loadParts at hF
  obtain ⟨b1, hF⟩ := inb_some hF
  exact Fr_tr (Fr_uf Fr.rf (by unfold Wr_X10_loadParts; omega)) (loopK_ind (res := res) (P := fun (q : Int × Sto) => Fr (Wr_X10_loadParts) q.2 res) (fun nx q hn hF => fr_X10_loadParts_B18 hn hF) N _ hF)
def Wr_X10_load (v1 : Nat) (a : Nat) (j : Int) : Prop := ((47 ≤ a ∧ a ≤ 49)) ∨ (a = 46 ∧ j = 5)
theorem fr_X10_load_B19 {N : Nat} {v1 : Nat}  {nx19 : (Int × Sto) → Option (Sto)} {v3 : Int} {σ : Sto} {res : Sto} (hnx19 : ∀ q, nx19 q = some res → Fr (Wr_X10_load v1) q.2 res) (hF : F_X10_load_B19 N nx19 v3 σ = some res) : Fr (Wr_X10_load v1) σ res := by
  unfold F_X10_load_B19 at hF
  by_cases c2 : (σ.1 46 5) ≤ v3
  · have hF := (if_pos c2).symm.trans hF
    obtain rfl := Option.some.inj hF
    exact Fr.rf
  · have hF := (if_neg c2).symm.trans hF
    obtain ⟨q3, eq3, hF⟩ := bind_some' hF
    exact Fr_tr (Fr_tr Fr.rf (Fr_mono (fr_X10_loadParts eq3) (fun a j h => by unfold Wr_X10_loadParts at h; unfold Wr_X10_load; omega))) (hnx19 _ hF)
theorem fr_X10_load {N : Nat} {v1 : Nat} {v2 : Int} {σ : Sto} {res : Sto} (hF : F_X10_load N v1 v2 σ = some res) : Fr (Wr_X10_load v1) σ res := by
  unfold F_X10_load at hF
  obtain ⟨q1, eq1, hF⟩ := bind_some' hF
  exact Fr_tr (Fr_tr (Fr_up Fr.rf (by unfold Wr_X10_load; omega)) (Fr_mono (fr_X10_loadPercents eq1) (fun a j h => by unfold Wr_X10_loadPercents at h; unfold Wr_X10_load; omega))) (loopK_ind (res := res) (P := fun (q : Int × Sto) => Fr (Wr_X10_load v1) q.2 res) (fun nx q hn hF => fr_X10_load_B19 hn hF) N _ hF)
def Wr_X10_judge (a : Nat) (j : Int) : Prop := (a = 50)
theorem fr_X10_judge_J67 {N : Nat}  {nx2 : (Int × Sto) → Option (Sto)} {v1 : Int} {v2 : Int} {σ : Sto} {res : Sto} (hnx2 : ∀ q, nx2 q = some res → Fr (Wr_X10_judge) q.2 res) (hF : F_X10_judge_J67 N nx2 v1 v2 σ = some res) : Fr (Wr_X10_judge) σ res := by
  unfold F_X10_judge_J67 at hF
  exact Fr_tr Fr.rf (hnx2 _ hF)
theorem fr_X10_judge_J61 {N : Nat}  {nx2 : (Int × Sto) → Option (Sto)} {nx21 : (Int × Sto) → Option (Sto)} {v1 : Int} {v2 : Int} {v3 : Int} {σ : Sto} {res : Sto} (hnx2 : ∀ q, nx2 q = some res → Fr (Wr_X10_judge) q.2 res) (hnx21 : ∀ q, nx21 q = some res → Fr (Wr_X10_judge) q.2 res) (hF : F_X10_judge_J61 N nx2 nx21 v1 v2 v3 σ = some res) : Fr (Wr_X10_judge) σ res := by
  unfold F_X10_judge_J61 at hF
  exact Fr_tr Fr.rf (hnx21 _ hF)
theorem fr_X10_judge_B21 {N : Nat}  {nx2 : (Int × Sto) → Option (Sto)} {nx21 : (Int × Sto) → Option (Sto)} {v1 : Int} {v2 : Int} {v3 : Int} {σ : Sto} {res : Sto} (hnx2 : ∀ q, nx2 q = some res → Fr (Wr_X10_judge) q.2 res) (hnx21 : ∀ q, nx21 q = some res → Fr (Wr_X10_judge) q.2 res) (hF : F_X10_judge_B21 N nx2 nx21 v1 v2 v3 σ = some res) : Fr (Wr_X10_judge) σ res := by
  unfold F_X10_judge_B21 at hF
  by_cases c3 : (σ.1 46 5) ≤ v3
  · have hF := (if_pos c3).symm.trans hF
    exact fr_X10_judge_J67 hnx2 hF
  · have hF := (if_neg c3).symm.trans hF
    obtain ⟨b4, hF⟩ := inb_some hF
    obtain ⟨n5, hF⟩ := grd_some hF
    by_cases c6 : (jfcmp (FP.fmul (fb (σ.2 49 (ja (jm v2 8) v3))) 1120403456) (ji2f v1) .l) < 0
    · have hF := (if_pos c6).symm.trans hF
      exact fr_X10_judge_J61 hnx2 hnx21 hF
    · have hF := (if_neg c6).symm.trans hF
      obtain ⟨b7, hF⟩ := inb_some hF
      exact Fr_tr (Fr_up Fr.rf (by unfold Wr_X10_judge; omega)) (fr_X10_judge_J61 hnx2 hnx21 hF)
theorem fr_X10_judge_B2 {N : Nat}  {nx2 : (Int × Sto) → Option (Sto)} {v1 : Int} {v2 : Int} {σ : Sto} {res : Sto} (hnx2 : ∀ q, nx2 q = some res → Fr (Wr_X10_judge) q.2 res) (hF : F_X10_judge_B2 N nx2 v1 v2 σ = some res) : Fr (Wr_X10_judge) σ res := by
  unfold F_X10_judge_B2 at hF
  by_cases c1 : (σ.1 46 5) ≤ v2
  · have hF := (if_pos c1).symm.trans hF
    obtain rfl := Option.some.inj hF
    exact Fr.rf
  · have hF := (if_neg c1).symm.trans hF
    obtain ⟨b2, hF⟩ := inb_some hF
    exact Fr_tr (Fr_up Fr.rf (by unfold Wr_X10_judge; omega)) (loopK_ind (res := res) (P := fun (q : Int × Sto) => Fr (Wr_X10_judge) q.2 res) (fun nx q hn hF => fr_X10_judge_B21 hnx2 hn hF) N _ hF)
theorem fr_X10_judge {N : Nat} {v1 : Int} {σ : Sto} {res : Sto} (hF : F_X10_judge N v1 σ = some res) : Fr (Wr_X10_judge) σ res := by
  unfold F_X10_judge at hF
  exact (loopK_ind (res := res) (P := fun (q : Int × Sto) => Fr (Wr_X10_judge) q.2 res) (fun nx q hn hF => fr_X10_judge_B2 hn hF) N _ hF)
def Wr_X4_fill (v0 : Nat) (v1 : Nat) (a : Nat) (j : Int) : Prop := ((v0 + 1 ≤ a ∧ a ≤ v0 + 2)) ∨ (a = v0 ∧ j = 2) ∨ ((47 ≤ a ∧ a ≤ 50)) ∨ (a = 46 ∧ j = 5)
theorem fr_X4_fill_J113 {N : Nat}  {nx50 : (Int × Sto) → Option (Sto)} {v0 : Nat} {v1 : Nat} {v2 : Int} {v4 : Int} {σ : Sto} {res : Sto} (hnx50 : ∀ q, nx50 q = some res → Fr (Wr_X4_fill v0 v1) q.2 res) (hF : F_X4_fill_J113 N nx50 v0 v1 v2 v4 σ = some res) : Fr (Wr_X4_fill v0 v1) σ res := by
  unfold F_X4_fill_J113 at hF
  exact Fr_tr Fr.rf (hnx50 _ hF)
theorem fr_X4_fill_B79 {N : Nat}  {nx50 : (Int × Sto) → Option (Sto)} {nx79 : (Int × Sto) → Option (Sto)} {v0 : Nat} {v1 : Nat} {v2 : Int} {v4 : Int} {v5 : Int} {σ : Sto} {res : Sto} (hnx50 : ∀ q, nx50 q = some res → Fr (Wr_X4_fill v0 v1) q.2 res) (hnx79 : ∀ q, nx79 q = some res → Fr (Wr_X4_fill v0 v1) q.2 res) (hF : F_X4_fill_B79 N nx50 nx79 v0 v1 v2 v4 v5 σ = some res) : Fr (Wr_X4_fill v0 v1) σ res := by
  unfold F_X4_fill_B79 at hF
  by_cases c6 : (σ.1 v1 8) ≤ v5
  · have hF := (if_pos c6).symm.trans hF
    exact fr_X4_fill_J113 hnx50 hF
  · have hF := (if_neg c6).symm.trans hF
    obtain ⟨q7, eq7, hF⟩ := bind_some' hF
    obtain ⟨b8, hF⟩ := inb_some hF
    exact Fr_tr (Fr_up Fr.rf (by unfold Wr_X4_fill; omega)) (hnx79 _ hF)
theorem fr_X4_fill_B50 {N : Nat}  {nx50 : (Int × Sto) → Option (Sto)} {v0 : Nat} {v1 : Nat} {v2 : Int} {v4 : Int} {σ : Sto} {res : Sto} (hnx50 : ∀ q, nx50 q = some res → Fr (Wr_X4_fill v0 v1) q.2 res) (hF : F_X4_fill_B50 N nx50 v0 v1 v2 v4 σ = some res) : Fr (Wr_X4_fill v0 v1) σ res := by
  unfold F_X4_fill_B50 at hF
  by_cases c2 : (σ.1 v0 2) ≤ v4
  · have hF := (if_pos c2).symm.trans hF
    obtain rfl := Option.some.inj hF
    exact Fr.rf
  · have hF := (if_neg c2).symm.trans hF
    obtain ⟨b3, hF⟩ := inb_some hF
    obtain ⟨q4, eq4, hF⟩ := bind_some' hF
    obtain ⟨q5, eq5, hF⟩ := bind_some' hF
    exact Fr_tr (Fr_tr (Fr_tr Fr.rf (Fr_mono (fr_X10_load eq4) (fun a j h => by unfold Wr_X10_load at h; unfold Wr_X4_fill; omega))) (Fr_mono (fr_X10_judge eq5) (fun a j h => by unfold Wr_X10_judge at h; unfold Wr_X4_fill; omega))) (loopK_ind (res := res) (P := fun (q : Int × Sto) => Fr (Wr_X4_fill v0 v1) q.2 res) (fun nx q hn hF => fr_X4_fill_B79 hnx50 hn hF) N _ hF)
theorem fr_X4_fill_J47 {N : Nat}   {v0 : Nat} {v1 : Nat} {v2 : Int} {σ : Sto} {res : Sto} (hF : F_X4_fill_J47 N  v0 v1 v2 σ = some res) : Fr (Wr_X4_fill v0 v1) σ res := by
  unfold F_X4_fill_J47 at hF
  exact (loopK_ind (res := res) (P := fun (q : Int × Sto) => Fr (Wr_X4_fill v0 v1) q.2 res) (fun nx q hn hF => fr_X4_fill_B50 hn hF) N _ hF)
theorem fr_X4_fill_B15 {N : Nat}  {nx15 : (Int × Sto) → Option (Sto)} {v0 : Nat} {v1 : Nat} {v2 : Int} {v4 : Int} {σ : Sto} {res : Sto} (hnx15 : ∀ q, nx15 q = some res → Fr (Wr_X4_fill v0 v1) q.2 res) (hF : F_X4_fill_B15 N nx15 v0 v1 v2 v4 σ = some res) : Fr (Wr_X4_fill v0 v1) σ res := by
  unfold F_X4_fill_B15 at hF
  by_cases c9 : (σ.1 (v1 + 8) 4) ≤ v4
  · have hF := (if_pos c9).symm.trans hF
    exact fr_X4_fill_J47  hF
  · have hF := (if_neg c9).symm.trans hF
    obtain ⟨b10, hF⟩ := inb_some hF
    obtain ⟨q11, eq11, hF⟩ := bind_some' hF
    exact Fr_tr (Fr_tr Fr.rf (Fr_mono (fr_X4_addStart eq11) (fun a j h => by unfold Wr_X4_addStart at h; unfold Wr_X4_fill; omega))) (hnx15 _ hF)
theorem fr_X4_fill {N : Nat} {v0 : Nat} {v1 : Nat} {v2 : Int} {σ : Sto} {res : Sto} (hF : F_X4_fill N v0 v1 v2 σ = some res) : Fr (Wr_X4_fill v0 v1) σ res := by
  unfold F_X4_fill at hF
  obtain ⟨b1, hF⟩ := inb_some hF
  exact Fr_tr (Fr_up (Fr_up Fr.rf (by unfold Wr_X4_fill; omega)) (by unfold Wr_X4_fill; omega)) (loopK_ind (res := res) (P := fun (q : Int × Sto) => Fr (Wr_X4_fill v0 v1) q.2 res) (fun nx q hn hF => fr_X4_fill_B15 hn hF) N _ hF)
def Wr_X5_clear (v0 : Nat) (a : Nat) (j : Int) : Prop := (a = v0 ∧ j = 3)
theorem fr_X5_clear {N : Nat} {v0 : Nat} {σ : Sto} {res : Sto} (hF : F_X5_clear N v0 σ = some res) : Fr (Wr_X5_clear v0) σ res := by
  unfold F_X5_clear at hF
  obtain rfl := Option.some.inj hF
  exact (Fr_up Fr.rf (by unfold Wr_X5_clear; omega))
def Wr_X5_copy (v0 : Nat) (v1 : Nat) (a : Nat) (j : Int) : Prop := ((v0 + 1 ≤ a ∧ a ≤ v0 + 3)) ∨ (a = v0 ∧ j = 3)
theorem fr_X5_copy {N : Nat} {v0 : Nat} {v1 : Nat} {σ : Sto} {res : Sto} (hF : F_X5_copy N v0 v1 σ = some res) : Fr (Wr_X5_copy v0 v1) σ res := by
  unfold F_X5_copy at hF
  obtain ⟨y1, hF⟩ := grd_some hF
  obtain ⟨y2, hF⟩ := grd_some hF
  obtain ⟨y3, hF⟩ := grd_some hF
  obtain rfl := Option.some.inj hF
  exact (Fr_up (Fr_cp (Fr_cp (Fr_cp Fr.rf (fun j => (by unfold Wr_X5_copy; omega))) (fun j => (by unfold Wr_X5_copy; omega))) (fun j => (by unfold Wr_X5_copy; omega))) (by unfold Wr_X5_copy; omega))
def Wr_X5_insert (v0 : Nat) (a : Nat) (j : Int) : Prop := ((v0 + 1 ≤ a ∧ a ≤ v0 + 3)) ∨ (a = v0 ∧ j = 3)
theorem fr_X5_insert_J88 {N : Nat}   {v0 : Nat} {v1 : Int} {v2 : Int} {v3 : Int} {v4 : Int} {σ : Sto} {res : Sto} (hF : F_X5_insert_J88 N  v0 v1 v2 v3 v4 σ = some res) : Fr (Wr_X5_insert v0) σ res := by
  unfold F_X5_insert_J88 at hF
  obtain ⟨b4, hF⟩ := inb_some hF
  obtain rfl := Option.some.inj hF
  exact (Fr_up (Fr_up (Fr_up (Fr_up Fr.rf (by unfold Wr_X5_insert; omega)) (by unfold Wr_X5_insert; omega)) (by unfold Wr_X5_insert; omega)) (by unfold Wr_X5_insert; omega))
theorem fr_X5_insert_B28 {N : Nat}  {nx28 : (Int × Sto) → Option (Sto)} {v0 : Nat} {v1 : Int} {v2 : Int} {v3 : Int} {v4 : Int} {v5 : Int} {σ : Sto} {res : Sto} (hnx28 : ∀ q, nx28 q = some res → Fr (Wr_X5_insert v0) q.2 res) (hF : F_X5_insert_B28 N nx28 v0 v1 v2 v3 v4 v5 σ = some res) : Fr (Wr_X5_insert v0) σ res := by
  unfold F_X5_insert_B28 at hF
  by_cases c5 : v5 ≤ v1
  · have hF := (if_pos c5).symm.trans hF
    exact fr_X5_insert_J88  hF
  · have hF := (if_neg c5).symm.trans hF
    obtain ⟨b6, hF⟩ := inb_some hF
    obtain ⟨b7, hF⟩ := inb_some hF
    exact Fr_tr (Fr_up (Fr_up (Fr_up Fr.rf (by unfold Wr_X5_insert; omega)) (by unfold Wr_X5_insert; omega)) (by unfold Wr_X5_insert; omega)) (hnx28 _ hF)
theorem fr_X5_insert {N : Nat} {v0 : Nat} {v1 : Int} {v2 : Int} {v3 : Int} {v4 : Int} {σ : Sto} {res : Sto} (hF : F_X5_insert N v0 v1 v2 v3 v4 σ = some res) : Fr (Wr_X5_insert v0) σ res := by
  unfold F_X5_insert at hF
  by_cases c1 : v1 < 0
  · have hF := (if_pos c1).symm.trans hF
    obtain rfl := Option.some.inj hF
    exact Fr.rf
  · have hF := (if_neg c1).symm.trans hF
    by_cases c2 : (σ.1 v0 3) < v1
    · have hF := (if_pos c2).symm.trans hF
      obtain rfl := Option.some.inj hF
      exact Fr.rf
    · have hF := (if_neg c2).symm.trans hF
      by_cases c3 : (σ.1 v0 3) < 30
      · have hF := (if_pos c3).symm.trans hF
        exact (loopK_ind (res := res) (P := fun (q : Int × Sto) => Fr (Wr_X5_insert v0) q.2 res) (fun nx q hn hF => fr_X5_insert_B28 hn hF) N _ hF)
      · have hF := (if_neg c3).symm.trans hF
        obtain rfl := Option.some.inj hF
        exact Fr.rf
def Wr_X5_remove (v0 : Nat) (a : Nat) (j : Int) : Prop := ((v0 + 1 ≤ a ∧ a ≤ v0 + 3)) ∨ (a = v0 ∧ j = 3)
theorem fr_X5_remove_B21 {N : Nat}  {nx21 : (Int × Sto) → Option (Sto)} {v0 : Nat} {v2 : Int} {σ : Sto} {res : Sto} (hnx21 : ∀ q, nx21 q = some res → Fr (Wr_X5_remove v0) q.2 res) (hF : F_X5_remove_B21 N nx21 v0 v2 σ = some res) : Fr (Wr_X5_remove v0) σ res := by
  unfold F_X5_remove_B21 at hF
  by_cases c3 : (σ.1 v0 3) ≤ v2
  · have hF := (if_pos c3).symm.trans hF
    obtain rfl := Option.some.inj hF
    exact Fr.rf
  · have hF := (if_neg c3).symm.trans hF
    obtain ⟨b4, hF⟩ := inb_some hF
    obtain ⟨b5, hF⟩ := inb_some hF
    exact Fr_tr (Fr_up (Fr_up (Fr_up Fr.rf (by unfold Wr_X5_remove; omega)) (by unfold Wr_X5_remove; omega)) (by unfold Wr_X5_remove; omega)) (hnx21 _ hF)
theorem fr_X5_remove {N : Nat} {v0 : Nat} {v1 : Int} {σ : Sto} {res : Sto} (hF : F_X5_remove N v0 v1 σ = some res) : Fr (Wr_X5_remove v0) σ res := by
  unfold F_X5_remove at hF
  obtain ⟨q1, eq1, hF⟩ := bind_some' hF
  by_cases c2 : q1 = 0
  · have hF := (if_pos c2).symm.trans hF
    obtain rfl := Option.some.inj hF
    exact Fr.rf
  · have hF := (if_neg c2).symm.trans hF
    exact Fr_tr (Fr_up Fr.rf (by unfold Wr_X5_remove; omega)) (loopK_ind (res := res) (P := fun (q : Int × Sto) => Fr (Wr_X5_remove v0) q.2 res) (fun nx q hn hF => fr_X5_remove_B21 hn hF) N _ hF)
def Wr_X6_fill (v0 : Nat) (v1 : Nat) (v2 : Nat) (v4 : Nat) (a : Nat) (j : Int) : Prop := ((v0 + 1 ≤ a ∧ a ≤ v0 + 2))
theorem fr_X6_fill_J110 {N : Nat}  {nx3 : (Int × Sto) → Option (Sto)} {v0 : Nat} {v1 : Nat} {v2 : Nat} {v3 : Int} {v4 : Nat} {v5 : Int} {σ : Sto} {res : Sto} (hnx3 : ∀ q, nx3 q = some res → Fr (Wr_X6_fill v0 v1 v2 v4) q.2 res) (hF : F_X6_fill_J110 N nx3 v0 v1 v2 v3 v4 v5 σ = some res) : Fr (Wr_X6_fill v0 v1 v2 v4) σ res := by
  unfold F_X6_fill_J110 at hF
  exact Fr_tr Fr.rf (hnx3 _ hF)
theorem fr_X6_fill_J104 {N : Nat}  {nx3 : (Int × Sto) → Option (Sto)} {nx15 : (Int × Sto) → Option (Sto)} {v0 : Nat} {v1 : Nat} {v2 : Nat} {v3 : Int} {v4 : Nat} {v5 : Int} {v6 : Int} {σ : Sto} {res : Sto} (hnx3 : ∀ q, nx3 q = some res → Fr (Wr_X6_fill v0 v1 v2 v4) q.2 res) (hnx15 : ∀ q, nx15 q = some res → Fr (Wr_X6_fill v0 v1 v2 v4) q.2 res) (hF : F_X6_fill_J104 N nx3 nx15 v0 v1 v2 v3 v4 v5 v6 σ = some res) : Fr (Wr_X6_fill v0 v1 v2 v4) σ res := by
  unfold F_X6_fill_J104 at hF
  exact Fr_tr Fr.rf (hnx15 _ hF)
theorem fr_X6_fill_B15 {N : Nat}  {nx3 : (Int × Sto) → Option (Sto)} {nx15 : (Int × Sto) → Option (Sto)} {v0 : Nat} {v1 : Nat} {v2 : Nat} {v3 : Int} {v4 : Nat} {v5 : Int} {v6 : Int} {σ : Sto} {res : Sto} (hnx3 : ∀ q, nx3 q = some res → Fr (Wr_X6_fill v0 v1 v2 v4) q.2 res) (hnx15 : ∀ q, nx15 q = some res → Fr (Wr_X6_fill v0 v1 v2 v4) q.2 res) (hF : F_X6_fill_B15 N nx3 nx15 v0 v1 v2 v3 v4 v5 v6 σ = some res) : Fr (Wr_X6_fill v0 v1 v2 v4) σ res := by
  unfold F_X6_fill_B15 at hF
  by_cases c2 : (σ.1 v1 9) ≤ v6
  · have hF := (if_pos c2).symm.trans hF
    exact fr_X6_fill_J110 hnx3 hF
  · have hF := (if_neg c2).symm.trans hF
    obtain ⟨b3, hF⟩ := inb_some hF
    obtain ⟨b4, hF⟩ := inb_some hF
    by_cases c5 : 0 ≤ ((upI (upI σ (v0 + 1) (ja (jm v5 12) v6) (-1)) (v0 + 2) (ja (jm v5 12) v6) 0).1 (v1 + 7) v5)
    · have hF := (if_pos c5).symm.trans hF
      exact Fr_tr (Fr_up (Fr_up Fr.rf (by unfold Wr_X6_fill; omega)) (by unfold Wr_X6_fill; omega)) (fr_X6_fill_J104 hnx3 hnx15 hF)
    · have hF := (if_neg c5).symm.trans hF
      obtain ⟨b6, hF⟩ := inb_some hF
      by_cases c7 : ((upI (upI σ (v0 + 1) (ja (jm v5 12) v6) (-1)) (v0 + 2) (ja (jm v5 12) v6) 0).1 (v1 + 7) v6) ≤ 0
      · have hF := (if_pos c7).symm.trans hF
        exact Fr_tr (Fr_up (Fr_up Fr.rf (by unfold Wr_X6_fill; omega)) (by unfold Wr_X6_fill; omega)) (fr_X6_fill_J104 hnx3 hnx15 hF)
      · have hF := (if_neg c7).symm.trans hF
        obtain ⟨q8, eq8, hF⟩ := bind_some' hF
        obtain ⟨q9, eq9, hF⟩ := bind_some' hF
        exact Fr_tr (Fr_up (Fr_up (Fr_up (Fr_up Fr.rf (by unfold Wr_X6_fill; omega)) (by unfold Wr_X6_fill; omega)) (by unfold Wr_X6_fill; omega)) (by unfold Wr_X6_fill; omega)) (fr_X6_fill_J104 hnx3 hnx15 hF)
theorem fr_X6_fill_B3 {N : Nat}  {nx3 : (Int × Sto) → Option (Sto)} {v0 : Nat} {v1 : Nat} {v2 : Nat} {v3 : Int} {v4 : Nat} {v5 : Int} {σ : Sto} {res : Sto} (hnx3 : ∀ q, nx3 q = some res → Fr (Wr_X6_fill v0 v1 v2 v4) q.2 res) (hF : F_X6_fill_B3 N nx3 v0 v1 v2 v3 v4 v5 σ = some res) : Fr (Wr_X6_fill v0 v1 v2 v4) σ res := by
  unfold F_X6_fill_B3 at hF
  by_cases c1 : (σ.1 v1 9) ≤ v5
  · have hF := (if_pos c1).symm.trans hF
    obtain rfl := Option.some.inj hF
    exact Fr.rf
  · have hF := (if_neg c1).symm.trans hF
    exact (loopK_ind (res := res) (P := fun (q : Int × Sto) => Fr (Wr_X6_fill v0 v1 v2 v4) q.2 res) (fun nx q hn hF => fr_X6_fill_B15 hnx3 hn hF) N _ hF)
theorem fr_X6_fill {N : Nat} {v0 : Nat} {v1 : Nat} {v2 : Nat} {v3 : Int} {v4 : Nat} {σ : Sto} {res : Sto} (hF : F_X6_fill N v0 v1 v2 v3 v4 σ = some res) : Fr (Wr_X6_fill v0 v1 v2 v4) σ res := by
  unfold F_X6_fill at hF
  exact (loopK_ind (res := res) (P := fun (q : Int × Sto) => Fr (Wr_X6_fill v0 v1 v2 v4) q.2 res) (fun nx q hn hF => fr_X6_fill_B3 hn hF) N _ hF)
def Wr_X7_add (v0 : Nat) (a : Nat) (j : Int) : Prop := ((v0 + 1 ≤ a ∧ a ≤ v0 + 4)) ∨ (a = v0 ∧ j = 4)
theorem fr_X7_add {N : Nat} {v0 : Nat} {v1 : Int} {v2 : Int} {v3 : Int} {v4 : Int} {σ : Sto} {res : Sto} (hF : F_X7_add N v0 v1 v2 v3 v4 σ = some res) : Fr (Wr_X7_add v0) σ res := by
  unfold F_X7_add at hF
  by_cases c1 : 24 ≤ (σ.1 v0 4)
  · have hF := (if_pos c1).symm.trans hF
    obtain rfl := Option.some.inj hF
    exact Fr.rf
  · have hF := (if_neg c1).symm.trans hF
    obtain ⟨b2, hF⟩ := inb_some hF
    obtain ⟨b3, hF⟩ := inb_some hF
    obtain ⟨b4, hF⟩ := inb_some hF
    obtain ⟨b5, hF⟩ := inb_some hF
    obtain rfl := Option.some.inj hF
    exact (Fr_up (Fr_up (Fr_up (Fr_up (Fr_up Fr.rf (by unfold Wr_X7_add; omega)) (by unfold Wr_X7_add; omega)) (by unfold Wr_X7_add; omega)) (by unfold Wr_X7_add; omega)) (by unfold Wr_X7_add; omega))
def Wr_X7_dropLast (v0 : Nat) (a : Nat) (j : Int) : Prop := (a = v0 ∧ j = 4)
theorem fr_X7_dropLast {N : Nat} {v0 : Nat} {σ : Sto} {res : Sto} (hF : F_X7_dropLast N v0 σ = some res) : Fr (Wr_X7_dropLast v0) σ res := by
  unfold F_X7_dropLast at hF
  obtain rfl := Option.some.inj hF
  exact (Fr_up Fr.rf (by unfold Wr_X7_dropLast; omega))
def Wr_X7_copy (v0 : Nat) (v1 : Nat) (a : Nat) (j : Int) : Prop := ((v0 + 1 ≤ a ∧ a ≤ v0 + 4)) ∨ (a = v0 ∧ j = 4)
theorem fr_X7_copy {N : Nat} {v0 : Nat} {v1 : Nat} {σ : Sto} {res : Sto} (hF : F_X7_copy N v0 v1 σ = some res) : Fr (Wr_X7_copy v0 v1) σ res := by
  unfold F_X7_copy at hF
  obtain ⟨y1, hF⟩ := grd_some hF
  obtain ⟨y2, hF⟩ := grd_some hF
  obtain ⟨y3, hF⟩ := grd_some hF
  obtain ⟨y4, hF⟩ := grd_some hF
  obtain rfl := Option.some.inj hF
  exact (Fr_up (Fr_cp (Fr_cp (Fr_cp (Fr_cp Fr.rf (fun j => (by unfold Wr_X7_copy; omega))) (fun j => (by unfold Wr_X7_copy; omega))) (fun j => (by unfold Wr_X7_copy; omega))) (fun j => (by unfold Wr_X7_copy; omega))) (by unfold Wr_X7_copy; omega))
def Wr_X8_put (a : Nat) (j : Int) : Prop := (a = 2) ∨ (a = 1 ∧ j = 1)
theorem fr_X8_put_J40 {N : Nat}  {nx3 : (Int × Sto) → Option (Sto)} {v1 : Int} {v2 : Int} {σ : Sto} {res : Sto} (hnx3 : ∀ q, nx3 q = some res → Fr (Wr_X8_put) q.2 res) (hF : F_X8_put_J40 N nx3 v1 v2 σ = some res) : Fr (Wr_X8_put) σ res := by
  unfold F_X8_put_J40 at hF
  exact Fr_tr Fr.rf (hnx3 _ hF)
theorem fr_X8_put_B3 {N : Nat}  {nx3 : (Int × Sto) → Option (Sto)} {v1 : Int} {v2 : Int} {σ : Sto} {res : Sto} (hnx3 : ∀ q, nx3 q = some res → Fr (Wr_X8_put) q.2 res) (hF : F_X8_put_B3 N nx3 v1 v2 σ = some res) : Fr (Wr_X8_put) σ res := by
  unfold F_X8_put_B3 at hF
  by_cases c1 : v2 < 0
  · have hF := (if_pos c1).symm.trans hF
    obtain rfl := Option.some.inj hF
    exact Fr.rf
  · have hF := (if_neg c1).symm.trans hF
    by_cases c2 : 700 ≤ (σ.1 1 1)
    · have hF := (if_pos c2).symm.trans hF
      exact fr_X8_put_J40 hnx3 hF
    · have hF := (if_neg c2).symm.trans hF
      obtain ⟨b3, hF⟩ := inb_some hF
      exact Fr_tr (Fr_up (Fr_up Fr.rf (by unfold Wr_X8_put; omega)) (by unfold Wr_X8_put; omega)) (fr_X8_put_J40 hnx3 hF)
theorem fr_X8_put {N : Nat} {v1 : Int} {σ : Sto} {res : Sto} (hF : F_X8_put N v1 σ = some res) : Fr (Wr_X8_put) σ res := by
  unfold F_X8_put at hF
  exact (loopK_ind (res := res) (P := fun (q : Int × Sto) => Fr (Wr_X8_put) q.2 res) (fun nx q hn hF => fr_X8_put_B3 hn hF) N _ hF)
def Wr_X8_readWord (a : Nat) (j : Int) : Prop := (a = 1 ∧ j = 3) ∨ (a = 1 ∧ j = 4) ∨ (a = 1 ∧ j = 6)
theorem fr_X8_readWord_J125 {N : Nat}  {nx90 : (Int × Sto) → Option (Sto)} {v2 : Int} {v3 : Int} {σ : Sto} {res : Sto} (hnx90 : ∀ q, nx90 q = some res → Fr (Wr_X8_readWord) q.2 res) (hF : F_X8_readWord_J125 N nx90 v2 v3 σ = some res) : Fr (Wr_X8_readWord) σ res := by
  unfold F_X8_readWord_J125 at hF
  exact Fr_tr Fr.rf (hnx90 _ hF)
theorem fr_X8_readWord_B90 {N : Nat}  {nx90 : (Int × Sto) → Option (Sto)} {v2 : Int} {v3 : Int} {σ : Sto} {res : Sto} (hnx90 : ∀ q, nx90 q = some res → Fr (Wr_X8_readWord) q.2 res) (hF : F_X8_readWord_B90 N nx90 v2 v3 σ = some res) : Fr (Wr_X8_readWord) σ res := by
  unfold F_X8_readWord_B90 at hF
  by_cases c1 : (σ.1 1 4) = 2
  · have hF := (if_pos c1).symm.trans hF
    by_cases c2 : 7 ≤ v3
    · have hF := (if_pos c2).symm.trans hF
      obtain rfl := Option.some.inj hF
      exact Fr.rf
    · have hF := (if_neg c2).symm.trans hF
      obtain ⟨b3, hF⟩ := inb_some hF
      by_cases c4 : (lwd v3) = v2
      · have hF := (if_pos c4).symm.trans hF
        exact Fr_tr (Fr_up (Fr_up Fr.rf (by unfold Wr_X8_readWord; omega)) (by unfold Wr_X8_readWord; omega)) (fr_X8_readWord_J125 hnx90 hF)
      · have hF := (if_neg c4).symm.trans hF
        exact fr_X8_readWord_J125 hnx90 hF
  · have hF := (if_neg c1).symm.trans hF
    obtain rfl := Option.some.inj hF
    exact Fr.rf
theorem fr_X8_readWord_J80 {N : Nat}   {v2 : Int} {t1 : Int} {σ : Sto} {res : Sto} (hF : F_X8_readWord_J80 N  v2 t1 σ = some res) : Fr (Wr_X8_readWord) σ res := by
  unfold F_X8_readWord_J80 at hF
  exact Fr_tr (Fr_up (Fr_up Fr.rf (by unfold Wr_X8_readWord; omega)) (by unfold Wr_X8_readWord; omega)) (loopK_ind (res := res) (P := fun (q : Int × Sto) => Fr (Wr_X8_readWord) q.2 res) (fun nx q hn hF => fr_X8_readWord_B90 hn hF) N _ hF)
theorem fr_X8_readWord_J67 {N : Nat}   {v1 : Int} {v2 : Int} {σ : Sto} {res : Sto} (hF : F_X8_readWord_J67 N  v1 v2 σ = some res) : Fr (Wr_X8_readWord) σ res := by
  unfold F_X8_readWord_J67 at hF
  by_cases c5 : v1 ≤ 6
  · have hF := (if_pos c5).symm.trans hF
    exact fr_X8_readWord_J80  hF
  · have hF := (if_neg c5).symm.trans hF
    exact fr_X8_readWord_J80  hF
theorem fr_X8_readWord_J48 {N : Nat}  {nx6 : (Int × Int × Int × Sto) → Option (Sto)} {v1 : Int} {v2 : Int} {v3 : Int} {σ : Sto} {res : Sto} (hnx6 : ∀ q, nx6 q = some res → Fr (Wr_X8_readWord) q.2.2.2 res) (hF : F_X8_readWord_J48 N nx6 v1 v2 v3 σ = some res) : Fr (Wr_X8_readWord) σ res := by
  unfold F_X8_readWord_J48 at hF
  exact Fr_tr (Fr_up Fr.rf (by unfold Wr_X8_readWord; omega)) (hnx6 _ hF)
theorem fr_X8_readWord_B6 {N : Nat}  {nx6 : (Int × Int × Int × Sto) → Option (Sto)} {v1 : Int} {v2 : Int} {v3 : Int} {σ : Sto} {res : Sto} (hnx6 : ∀ q, nx6 q = some res → Fr (Wr_X8_readWord) q.2.2.2 res) (hF : F_X8_readWord_B6 N nx6 v1 v2 v3 σ = some res) : Fr (Wr_X8_readWord) σ res := by
  unfold F_X8_readWord_B6 at hF
  by_cases c6 : 700 ≤ v3
  · have hF := (if_pos c6).symm.trans hF
    exact fr_X8_readWord_J67  hF
  · have hF := (if_neg c6).symm.trans hF
    obtain ⟨q7, eq7, hF⟩ := bind_some' hF
    obtain ⟨q8, eq8, hF⟩ := bind_some' hF
    by_cases c9 : q8 = 0
    · have hF := (if_pos c9).symm.trans hF
      exact fr_X8_readWord_J67  hF
    · have hF := (if_neg c9).symm.trans hF
      by_cases c10 : 6 ≤ v1
      · have hF := (if_pos c10).symm.trans hF
        exact fr_X8_readWord_J48 hnx6 hF
      · have hF := (if_neg c10).symm.trans hF
        obtain ⟨q11, eq11, hF⟩ := bind_some' hF
        exact fr_X8_readWord_J48 hnx6 hF
theorem fr_X8_readWord {N : Nat}  {σ : Sto} {res : Sto} (hF : F_X8_readWord N  σ = some res) : Fr (Wr_X8_readWord) σ res := by
  unfold F_X8_readWord at hF
  exact (loopK_ind (res := res) (P := fun (q : Int × Int × Int × Sto) => Fr (Wr_X8_readWord) q.2.2.2 res) (fun nx q hn hF => fr_X8_readWord_B6 hn hF) N _ hF)
def Wr_X8_readDigits (a : Nat) (j : Int) : Prop := (a = 1 ∧ j = 3)
theorem fr_X8_readDigits_J40 {N : Nat}  {nx4 : (Int × Int × Sto) → Option (Int × Sto)} {v1 : Int} {v2 : Int} {σ : Sto} {res : Int × Sto} (hnx4 : ∀ q, nx4 q = some res → Fr (Wr_X8_readDigits) q.2.2 res.2) (hF : F_X8_readDigits_J40 N nx4 v1 v2 σ = some res) : Fr (Wr_X8_readDigits) σ res.2 := by
  unfold F_X8_readDigits_J40 at hF
  exact Fr_tr (Fr_up Fr.rf (by unfold Wr_X8_readDigits; omega)) (hnx4 _ hF)
theorem fr_X8_readDigits_B4 {N : Nat}  {nx4 : (Int × Int × Sto) → Option (Int × Sto)} {v1 : Int} {v2 : Int} {σ : Sto} {res : Int × Sto} (hnx4 : ∀ q, nx4 q = some res → Fr (Wr_X8_readDigits) q.2.2 res.2) (hF : F_X8_readDigits_B4 N nx4 v1 v2 σ = some res) : Fr (Wr_X8_readDigits) σ res.2 := by
  unfold F_X8_readDigits_B4 at hF
  by_cases c1 : 700 ≤ v2
  · have hF := (if_pos c1).symm.trans hF
    obtain rfl := Option.some.inj hF
    exact Fr.rf
  · have hF := (if_neg c1).symm.trans hF
    obtain ⟨q2, eq2, hF⟩ := bind_some' hF
    obtain ⟨q3, eq3, hF⟩ := bind_some' hF
    by_cases c4 : q3 = 0
    · have hF := (if_pos c4).symm.trans hF
      obtain rfl := Option.some.inj hF
      exact Fr.rf
    · have hF := (if_neg c4).symm.trans hF
      by_cases c5 : 1000000 ≤ v1
      · have hF := (if_pos c5).symm.trans hF
        exact fr_X8_readDigits_J40 hnx4 hF
      · have hF := (if_neg c5).symm.trans hF
        obtain ⟨q6, eq6, hF⟩ := bind_some' hF
        exact fr_X8_readDigits_J40 hnx4 hF
theorem fr_X8_readDigits {N : Nat}  {σ : Sto} {res : Int × Sto} (hF : F_X8_readDigits N  σ = some res) : Fr (Wr_X8_readDigits) σ res.2 := by
  unfold F_X8_readDigits at hF
  exact (loopK_ind (res := res) (P := fun (q : Int × Int × Sto) => Fr (Wr_X8_readDigits) q.2.2 res.2) (fun nx q hn hF => fr_X8_readDigits_B4 hn hF) N _ hF)
def Wr_X8_readSign (a : Nat) (j : Int) : Prop := (a = 1 ∧ j = 3) ∨ (a = 1 ∧ j = 4) ∨ (a = 1 ∧ j = 6)
theorem fr_X8_readSign_J47 {N : Nat}    {σ : Sto} {res : Sto} (hF : F_X8_readSign_J47 N   σ = some res) : Fr (Wr_X8_readSign) σ res := by
  unfold F_X8_readSign_J47 at hF
  obtain rfl := Option.some.inj hF
  exact (Fr_up Fr.rf (by unfold Wr_X8_readSign; omega))
theorem fr_X8_readSign {N : Nat} {v1 : Int} {σ : Sto} {res : Sto} (hF : F_X8_readSign N v1 σ = some res) : Fr (Wr_X8_readSign) σ res := by
  unfold F_X8_readSign at hF
  by_cases c1 : v1 = 59
  · have hF := (if_pos c1).symm.trans hF
    obtain rfl := Option.some.inj hF
    exact (Fr_up Fr.rf (by unfold Wr_X8_readSign; omega))
  · have hF := (if_neg c1).symm.trans hF
    by_cases c2 : v1 = 45
    · have hF := (if_pos c2).symm.trans hF
      obtain ⟨q3, eq3, hF⟩ := bind_some' hF
      obtain ⟨q4, eq4, hF⟩ := bind_some' hF
      by_cases c5 : q4 = 0
      · have hF := (if_pos c5).symm.trans hF
        exact fr_X8_readSign_J47  hF
      · have hF := (if_neg c5).symm.trans hF
        obtain ⟨q6, eq6, hF⟩ := bind_some' hF
        obtain rfl := Option.some.inj hF
        exact (Fr_up (Fr_tr (Fr_up Fr.rf (by unfold Wr_X8_readSign; omega)) (Fr_mono (fr_X8_readDigits eq6) (fun a j h => by unfold Wr_X8_readDigits at h; unfold Wr_X8_readSign; omega))) (by unfold Wr_X8_readSign; omega))
    · have hF := (if_neg c2).symm.trans hF
      exact fr_X8_readSign_J47  hF
def Wr_X8_next (a : Nat) (j : Int) : Prop := (a = 1 ∧ j = 3) ∨ (a = 1 ∧ j = 4) ∨ (a = 1 ∧ j = 5) ∨ (a = 1 ∧ j = 6)
theorem fr_X8_next_J35 {N : Nat}    {σ : Sto} {res : Sto} (hF : F_X8_next_J35 N   σ = some res) : Fr (Wr_X8_next) σ res := by
  unfold F_X8_next_J35 at hF
  obtain ⟨q1, eq1, hF⟩ := bind_some' hF
  by_cases c2 : ((upI σ 1 5 (σ.1 1 3)).1 1 3) < ((upI σ 1 5 (σ.1 1 3)).1 1 2)
  · have hF := (if_pos c2).symm.trans hF
    obtain ⟨q3, eq3, hF⟩ := bind_some' hF
    by_cases c4 : q3 = 0
    · have hF := (if_pos c4).symm.trans hF
      obtain ⟨q5, eq5, hF⟩ := bind_some' hF
      by_cases c6 : q5 = 0
      · have hF := (if_pos c6).symm.trans hF
        obtain ⟨q7, eq7, hF⟩ := bind_some' hF
        obtain rfl := Option.some.inj hF
        exact (Fr_tr (Fr_up (Fr_up Fr.rf (by unfold Wr_X8_next; omega)) (by unfold Wr_X8_next; omega)) (Fr_mono (fr_X8_readSign eq7) (fun a j h => by unfold Wr_X8_readSign at h; unfold Wr_X8_next; omega)))
      · have hF := (if_neg c6).symm.trans hF
        obtain ⟨q8, eq8, hF⟩ := bind_some' hF
        obtain rfl := Option.some.inj hF
        exact (Fr_up (Fr_tr (Fr_up (Fr_up Fr.rf (by unfold Wr_X8_next; omega)) (by unfold Wr_X8_next; omega)) (Fr_mono (fr_X8_readDigits eq8) (fun a j h => by unfold Wr_X8_readDigits at h; unfold Wr_X8_next; omega))) (by unfold Wr_X8_next; omega))
    · have hF := (if_neg c4).symm.trans hF
      obtain ⟨q9, eq9, hF⟩ := bind_some' hF
      obtain rfl := Option.some.inj hF
      exact (Fr_tr (Fr_up Fr.rf (by unfold Wr_X8_next; omega)) (Fr_mono (fr_X8_readWord eq9) (fun a j h => by unfold Wr_X8_readWord at h; unfold Wr_X8_next; omega)))
  · have hF := (if_neg c2).symm.trans hF
    obtain rfl := Option.some.inj hF
    exact (Fr_up (Fr_up Fr.rf (by unfold Wr_X8_next; omega)) (by unfold Wr_X8_next; omega))
theorem fr_X8_next_B2 {N : Nat}  {nx2 : (Int × Sto) → Option (Sto)} {v1 : Int} {σ : Sto} {res : Sto} (hnx2 : ∀ q, nx2 q = some res → Fr (Wr_X8_next) q.2 res) (hF : F_X8_next_B2 N nx2 v1 σ = some res) : Fr (Wr_X8_next) σ res := by
  unfold F_X8_next_B2 at hF
  by_cases c10 : 700 ≤ v1
  · have hF := (if_pos c10).symm.trans hF
    exact fr_X8_next_J35  hF
  · have hF := (if_neg c10).symm.trans hF
    obtain ⟨q11, eq11, hF⟩ := bind_some' hF
    obtain ⟨q12, eq12, hF⟩ := bind_some' hF
    by_cases c13 : q12 = 0
    · have hF := (if_pos c13).symm.trans hF
      exact fr_X8_next_J35  hF
    · have hF := (if_neg c13).symm.trans hF
      exact Fr_tr (Fr_up Fr.rf (by unfold Wr_X8_next; omega)) (hnx2 _ hF)
theorem fr_X8_next {N : Nat}  {σ : Sto} {res : Sto} (hF : F_X8_next N  σ = some res) : Fr (Wr_X8_next) σ res := by
  unfold F_X8_next at hF
  exact (loopK_ind (res := res) (P := fun (q : Int × Sto) => Fr (Wr_X8_next) q.2 res) (fun nx q hn hF => fr_X8_next_B2 hn hF) N _ hF)
def Wr_X8_fail (a : Nat) (j : Int) : Prop := (a = 1 ∧ j = 10) ∨ (a = 1 ∧ j = 9)
theorem fr_X8_fail {N : Nat} {v1 : Int} {σ : Sto} {res : Int × Sto} (hF : F_X8_fail N v1 σ = some res) : Fr (Wr_X8_fail) σ res.2 := by
  unfold F_X8_fail at hF
  obtain rfl := Option.some.inj hF
  exact (Fr_up (Fr_up Fr.rf (by unfold Wr_X8_fail; omega)) (by unfold Wr_X8_fail; omega))
def Wr_X8_expect (a : Nat) (j : Int) : Prop := (a = 1 ∧ j = 10) ∨ (a = 1 ∧ j = 3) ∨ (a = 1 ∧ j = 4) ∨ (a = 1 ∧ j = 5) ∨ (a = 1 ∧ j = 6) ∨ (a = 1 ∧ j = 9)
theorem fr_X8_expect_J20 {N : Nat}    {σ : Sto} {res : Int × Sto} (hF : F_X8_expect_J20 N   σ = some res) : Fr (Wr_X8_expect) σ res.2 := by
  unfold F_X8_expect_J20 at hF
  obtain rfl := Option.some.inj hF
  exact Fr.rf
theorem fr_X8_expect {N : Nat} {v1 : Int} {σ : Sto} {res : Int × Sto} (hF : F_X8_expect N v1 σ = some res) : Fr (Wr_X8_expect) σ res.2 := by
  unfold F_X8_expect at hF
  obtain ⟨q1, eq1, hF⟩ := bind_some' hF
  by_cases c2 : (q1.1 1 4) = v1
  · have hF := (if_pos c2).symm.trans hF
    exact Fr_tr (Fr_tr Fr.rf (Fr_mono (fr_X8_next eq1) (fun a j h => by unfold Wr_X8_next at h; unfold Wr_X8_expect; omega))) (fr_X8_expect_J20  hF)
  · have hF := (if_neg c2).symm.trans hF
    obtain ⟨q3, eq3, hF⟩ := bind_some' hF
    by_cases c4 : q3.1 = 0
    · have hF := (if_pos c4).symm.trans hF
      obtain rfl := Option.some.inj hF
      exact (Fr_tr (Fr_tr Fr.rf (Fr_mono (fr_X8_next eq1) (fun a j h => by unfold Wr_X8_next at h; unfold Wr_X8_expect; omega))) (Fr_mono (fr_X8_fail eq3) (fun a j h => by unfold Wr_X8_fail at h; unfold Wr_X8_expect; omega)))
    · have hF := (if_neg c4).symm.trans hF
      exact Fr_tr (Fr_tr (Fr_tr Fr.rf (Fr_mono (fr_X8_next eq1) (fun a j h => by unfold Wr_X8_next at h; unfold Wr_X8_expect; omega))) (Fr_mono (fr_X8_fail eq3) (fun a j h => by unfold Wr_X8_fail at h; unfold Wr_X8_expect; omega))) (fr_X8_expect_J20  hF)
def Wr_X8_expectNumber (a : Nat) (j : Int) : Prop := (a = 1 ∧ j = 10) ∨ (a = 1 ∧ j = 3) ∨ (a = 1 ∧ j = 4) ∨ (a = 1 ∧ j = 5) ∨ (a = 1 ∧ j = 6) ∨ (a = 1 ∧ j = 9)
theorem fr_X8_expectNumber_J54 {N : Nat}    {σ : Sto} {res : Int × Sto} (hF : F_X8_expectNumber_J54 N   σ = some res) : Fr (Wr_X8_expectNumber) σ res.2 := by
  unfold F_X8_expectNumber_J54 at hF
  obtain rfl := Option.some.inj hF
  exact Fr.rf
theorem fr_X8_expectNumber_J46 {N : Nat}    {σ : Sto} {res : Int × Sto} (hF : F_X8_expectNumber_J46 N   σ = some res) : Fr (Wr_X8_expectNumber) σ res.2 := by
  unfold F_X8_expectNumber_J46 at hF
  obtain ⟨q1, eq1, hF⟩ := bind_some' hF
  by_cases c2 : q1.1 = 0
  · have hF := (if_pos c2).symm.trans hF
    obtain rfl := Option.some.inj hF
    exact (Fr_tr Fr.rf (Fr_mono (fr_X8_fail eq1) (fun a j h => by unfold Wr_X8_fail at h; unfold Wr_X8_expectNumber; omega)))
  · have hF := (if_neg c2).symm.trans hF
    exact Fr_tr (Fr_tr Fr.rf (Fr_mono (fr_X8_fail eq1) (fun a j h => by unfold Wr_X8_fail at h; unfold Wr_X8_expectNumber; omega))) (fr_X8_expectNumber_J54  hF)
theorem fr_X8_expectNumber_J30 {N : Nat}   {v1 : Int} {v2 : Int} {σ : Sto} {res : Int × Sto} (hF : F_X8_expectNumber_J30 N  v1 v2 σ = some res) : Fr (Wr_X8_expectNumber) σ res.2 := by
  unfold F_X8_expectNumber_J30 at hF
  by_cases c3 : (σ.1 1 6) < v1
  · have hF := (if_pos c3).symm.trans hF
    exact fr_X8_expectNumber_J46  hF
  · have hF := (if_neg c3).symm.trans hF
    by_cases c4 : (σ.1 1 6) ≤ v2
    · have hF := (if_pos c4).symm.trans hF
      exact fr_X8_expectNumber_J54  hF
    · have hF := (if_neg c4).symm.trans hF
      exact fr_X8_expectNumber_J46  hF
theorem fr_X8_expectNumber_J24 {N : Nat}    {σ : Sto} {res : Int × Sto} (hF : F_X8_expectNumber_J24 N   σ = some res) : Fr (Wr_X8_expectNumber) σ res.2 := by
  unfold F_X8_expectNumber_J24 at hF
  obtain ⟨q7, eq7, hF⟩ := bind_some' hF
  obtain rfl := Option.some.inj hF
  exact (Fr_tr Fr.rf (Fr_mono (fr_X8_fail eq7) (fun a j h => by unfold Wr_X8_fail at h; unfold Wr_X8_expectNumber; omega)))
theorem fr_X8_expectNumber {N : Nat} {v1 : Int} {v2 : Int} {σ : Sto} {res : Int × Sto} (hF : F_X8_expectNumber N v1 v2 σ = some res) : Fr (Wr_X8_expectNumber) σ res.2 := by
  unfold F_X8_expectNumber at hF
  obtain ⟨q5, eq5, hF⟩ := bind_some' hF
  by_cases c6 : (q5.1 1 4) = 3
  · have hF := (if_pos c6).symm.trans hF
    exact Fr_tr (Fr_tr Fr.rf (Fr_mono (fr_X8_next eq5) (fun a j h => by unfold Wr_X8_next at h; unfold Wr_X8_expectNumber; omega))) (fr_X8_expectNumber_J30  hF)
  · have hF := (if_neg c6).symm.trans hF
    by_cases c8 : (q5.1 1 4) = 4
    · have hF := (if_pos c8).symm.trans hF
      by_cases c9 : v1 < 0
      · have hF := (if_pos c9).symm.trans hF
        exact Fr_tr (Fr_tr Fr.rf (Fr_mono (fr_X8_next eq5) (fun a j h => by unfold Wr_X8_next at h; unfold Wr_X8_expectNumber; omega))) (fr_X8_expectNumber_J30  hF)
      · have hF := (if_neg c9).symm.trans hF
        exact Fr_tr (Fr_tr Fr.rf (Fr_mono (fr_X8_next eq5) (fun a j h => by unfold Wr_X8_next at h; unfold Wr_X8_expectNumber; omega))) (fr_X8_expectNumber_J24  hF)
    · have hF := (if_neg c8).symm.trans hF
      exact Fr_tr (Fr_tr Fr.rf (Fr_mono (fr_X8_next eq5) (fun a j h => by unfold Wr_X8_next at h; unfold Wr_X8_expectNumber; omega))) (fr_X8_expectNumber_J24  hF)
def Wr_X8_readMember (v1 : Nat) (a : Nat) (j : Int) : Prop := ((v1 + 1 ≤ a ∧ a ≤ v1 + 3)) ∨ (a = v1 ∧ j = 8) ∨ (a = 1 ∧ j = 10) ∨ (a = 1 ∧ j = 3) ∨ (a = 1 ∧ j = 4) ∨ (a = 1 ∧ j = 5) ∨ (a = 1 ∧ j = 6) ∨ (a = 1 ∧ j = 9)
theorem fr_X8_readMember {N : Nat} {v1 : Nat} {σ : Sto} {res : Int × Sto} (hF : F_X8_readMember N v1 σ = some res) : Fr (Wr_X8_readMember v1) σ res.2 := by
  unfold F_X8_readMember at hF
  by_cases c1 : (σ.1 v1 8) < 8
  · have hF := (if_pos c1).symm.trans hF
    obtain ⟨q2, eq2, hF⟩ := bind_some' hF
    by_cases c3 : q2.1 = 0
    · have hF := (if_pos c3).symm.trans hF
      obtain rfl := Option.some.inj hF
      exact (Fr_tr Fr.rf (Fr_mono (fr_X8_expect eq2) (fun a j h => by unfold Wr_X8_expect at h; unfold Wr_X8_readMember; omega)))
    · have hF := (if_neg c3).symm.trans hF
      obtain ⟨q4, eq4, hF⟩ := bind_some' hF
      by_cases c5 : q4 < 0
      · have hF := (if_pos c5).symm.trans hF
        obtain ⟨b6, hF⟩ := inb_some hF
        obtain ⟨q7, eq7, hF⟩ := bind_some' hF
        by_cases c8 : q7.1 = 0
        · have hF := (if_pos c8).symm.trans hF
          obtain rfl := Option.some.inj hF
          exact (Fr_tr (Fr_up (Fr_tr Fr.rf (Fr_mono (fr_X8_expect eq2) (fun a j h => by unfold Wr_X8_expect at h; unfold Wr_X8_readMember; omega))) (by unfold Wr_X8_readMember; omega)) (Fr_mono (fr_X8_expectNumber eq7) (fun a j h => by unfold Wr_X8_expectNumber at h; unfold Wr_X8_readMember; omega)))
        · have hF := (if_neg c8).symm.trans hF
          obtain ⟨q9, eq9, hF⟩ := bind_some' hF
          by_cases c10 : q9.1 = 0
          · have hF := (if_pos c10).symm.trans hF
            obtain rfl := Option.some.inj hF
            exact (Fr_tr (Fr_up (Fr_tr (Fr_up (Fr_tr Fr.rf (Fr_mono (fr_X8_expect eq2) (fun a j h => by unfold Wr_X8_expect at h; unfold Wr_X8_readMember; omega))) (by unfold Wr_X8_readMember; omega)) (Fr_mono (fr_X8_expectNumber eq7) (fun a j h => by unfold Wr_X8_expectNumber at h; unfold Wr_X8_readMember; omega))) (by unfold Wr_X8_readMember; omega)) (Fr_mono (fr_X8_expectNumber eq9) (fun a j h => by unfold Wr_X8_expectNumber at h; unfold Wr_X8_readMember; omega)))
          · have hF := (if_neg c10).symm.trans hF
            obtain rfl := Option.some.inj hF
            exact (Fr_up (Fr_up (Fr_tr (Fr_up (Fr_tr (Fr_up (Fr_tr Fr.rf (Fr_mono (fr_X8_expect eq2) (fun a j h => by unfold Wr_X8_expect at h; unfold Wr_X8_readMember; omega))) (by unfold Wr_X8_readMember; omega)) (Fr_mono (fr_X8_expectNumber eq7) (fun a j h => by unfold Wr_X8_expectNumber at h; unfold Wr_X8_readMember; omega))) (by unfold Wr_X8_readMember; omega)) (Fr_mono (fr_X8_expectNumber eq9) (fun a j h => by unfold Wr_X8_expectNumber at h; unfold Wr_X8_readMember; omega))) (by unfold Wr_X8_readMember; omega)) (by unfold Wr_X8_readMember; omega))
      · have hF := (if_neg c5).symm.trans hF
        obtain ⟨q11, eq11, hF⟩ := bind_some' hF
        obtain rfl := Option.some.inj hF
        exact (Fr_tr (Fr_tr Fr.rf (Fr_mono (fr_X8_expect eq2) (fun a j h => by unfold Wr_X8_expect at h; unfold Wr_X8_readMember; omega))) (Fr_mono (fr_X8_fail eq11) (fun a j h => by unfold Wr_X8_fail at h; unfold Wr_X8_readMember; omega)))
  · have hF := (if_neg c1).symm.trans hF
    obtain ⟨q12, eq12, hF⟩ := bind_some' hF
    obtain rfl := Option.some.inj hF
    exact (Fr_tr Fr.rf (Fr_mono (fr_X8_fail eq12) (fun a j h => by unfold Wr_X8_fail at h; unfold Wr_X8_readMember; omega)))
def Wr_X8_expectMember (v1 : Nat) (a : Nat) (j : Int) : Prop := (a = 1 ∧ j = 10) ∨ (a = 1 ∧ j = 3) ∨ (a = 1 ∧ j = 4) ∨ (a = 1 ∧ j = 5) ∨ (a = 1 ∧ j = 6) ∨ (a = 1 ∧ j = 9)
theorem fr_X8_expectMember_J37 {N : Nat} {v1 : Nat}    {σ : Sto} {res : Int × Sto} (hF : F_X8_expectMember_J37 N   σ = some res) : Fr (Wr_X8_expectMember v1) σ res.2 := by
  unfold F_X8_expectMember_J37 at hF
  obtain rfl := Option.some.inj hF
  exact Fr.rf
theorem fr_X8_expectMember {N : Nat} {v1 : Nat} {σ : Sto} {res : Int × Sto} (hF : F_X8_expectMember N v1 σ = some res) : Fr (Wr_X8_expectMember v1) σ res.2 := by
  unfold F_X8_expectMember at hF
  obtain ⟨q1, eq1, hF⟩ := bind_some' hF
  by_cases c2 : q1.1 = 0
  · have hF := (if_pos c2).symm.trans hF
    obtain rfl := Option.some.inj hF
    exact (Fr_tr Fr.rf (Fr_mono (fr_X8_expect eq1) (fun a j h => by unfold Wr_X8_expect at h; unfold Wr_X8_expectMember; omega)))
  · have hF := (if_neg c2).symm.trans hF
    obtain ⟨q3, eq3, hF⟩ := bind_some' hF
    by_cases c4 : 0 ≤ ((upI q1.2 1 6 q3).1 1 6)
    · have hF := (if_pos c4).symm.trans hF
      exact Fr_tr (Fr_up (Fr_tr Fr.rf (Fr_mono (fr_X8_expect eq1) (fun a j h => by unfold Wr_X8_expect at h; unfold Wr_X8_expectMember; omega))) (by unfold Wr_X8_expectMember; omega)) (fr_X8_expectMember_J37  hF)
    · have hF := (if_neg c4).symm.trans hF
      obtain ⟨q5, eq5, hF⟩ := bind_some' hF
      by_cases c6 : q5.1 = 0
      · have hF := (if_pos c6).symm.trans hF
        obtain rfl := Option.some.inj hF
        exact (Fr_tr (Fr_up (Fr_tr Fr.rf (Fr_mono (fr_X8_expect eq1) (fun a j h => by unfold Wr_X8_expect at h; unfold Wr_X8_expectMember; omega))) (by unfold Wr_X8_expectMember; omega)) (Fr_mono (fr_X8_fail eq5) (fun a j h => by unfold Wr_X8_fail at h; unfold Wr_X8_expectMember; omega)))
      · have hF := (if_neg c6).symm.trans hF
        exact Fr_tr (Fr_tr (Fr_up (Fr_tr Fr.rf (Fr_mono (fr_X8_expect eq1) (fun a j h => by unfold Wr_X8_expect at h; unfold Wr_X8_expectMember; omega))) (by unfold Wr_X8_expectMember; omega)) (Fr_mono (fr_X8_fail eq5) (fun a j h => by unfold Wr_X8_fail at h; unfold Wr_X8_expectMember; omega))) (fr_X8_expectMember_J37  hF)
def Wr_X8_readOwns (v1 : Nat) (a : Nat) (j : Int) : Prop := ((v1 + 9 ≤ a ∧ a ≤ v1 + 12)) ∨ (a = v1 + 8 ∧ j = 4) ∨ (a = 1 ∧ j = 10) ∨ (a = 1 ∧ j = 3) ∨ (a = 1 ∧ j = 4) ∨ (a = 1 ∧ j = 5) ∨ (a = 1 ∧ j = 6) ∨ (a = 1 ∧ j = 9)
theorem fr_X8_readOwns {N : Nat} {v1 : Nat} {σ : Sto} {res : Int × Sto} (hF : F_X8_readOwns N v1 σ = some res) : Fr (Wr_X8_readOwns v1) σ res.2 := by
  unfold F_X8_readOwns at hF
  by_cases c1 : (σ.1 (v1 + 8) 4) < 16
  · have hF := (if_pos c1).symm.trans hF
    obtain ⟨q2, eq2, hF⟩ := bind_some' hF
    by_cases c3 : q2.1 = 0
    · have hF := (if_pos c3).symm.trans hF
      obtain rfl := Option.some.inj hF
      exact (Fr_tr Fr.rf (Fr_mono (fr_X8_expectMember eq2) (fun a j h => by unfold Wr_X8_expectMember at h; unfold Wr_X8_readOwns; omega)))
    · have hF := (if_neg c3).symm.trans hF
      obtain ⟨q4, eq4, hF⟩ := bind_some' hF
      by_cases c5 : q4.1 = 0
      · have hF := (if_pos c5).symm.trans hF
        obtain rfl := Option.some.inj hF
        exact (Fr_tr (Fr_tr Fr.rf (Fr_mono (fr_X8_expectMember eq2) (fun a j h => by unfold Wr_X8_expectMember at h; unfold Wr_X8_readOwns; omega))) (Fr_mono (fr_X8_expectMember eq4) (fun a j h => by unfold Wr_X8_expectMember at h; unfold Wr_X8_readOwns; omega)))
      · have hF := (if_neg c5).symm.trans hF
        by_cases c6 : (q2.2.1 1 6) < (q4.2.1 1 6)
        · have hF := (if_pos c6).symm.trans hF
          obtain ⟨q7, eq7, hF⟩ := bind_some' hF
          by_cases c8 : q7.1 = 0
          · have hF := (if_pos c8).symm.trans hF
            obtain rfl := Option.some.inj hF
            exact (Fr_tr (Fr_tr (Fr_tr Fr.rf (Fr_mono (fr_X8_expectMember eq2) (fun a j h => by unfold Wr_X8_expectMember at h; unfold Wr_X8_readOwns; omega))) (Fr_mono (fr_X8_expectMember eq4) (fun a j h => by unfold Wr_X8_expectMember at h; unfold Wr_X8_readOwns; omega))) (Fr_mono (fr_X8_expectNumber eq7) (fun a j h => by unfold Wr_X8_expectNumber at h; unfold Wr_X8_readOwns; omega)))
          · have hF := (if_neg c8).symm.trans hF
            obtain ⟨q9, eq9, hF⟩ := bind_some' hF
            by_cases c10 : q9.1 = 0
            · have hF := (if_pos c10).symm.trans hF
              obtain rfl := Option.some.inj hF
              exact (Fr_tr (Fr_tr (Fr_tr (Fr_tr Fr.rf (Fr_mono (fr_X8_expectMember eq2) (fun a j h => by unfold Wr_X8_expectMember at h; unfold Wr_X8_readOwns; omega))) (Fr_mono (fr_X8_expectMember eq4) (fun a j h => by unfold Wr_X8_expectMember at h; unfold Wr_X8_readOwns; omega))) (Fr_mono (fr_X8_expectNumber eq7) (fun a j h => by unfold Wr_X8_expectNumber at h; unfold Wr_X8_readOwns; omega))) (Fr_mono (fr_X8_expectNumber eq9) (fun a j h => by unfold Wr_X8_expectNumber at h; unfold Wr_X8_readOwns; omega)))
            · have hF := (if_neg c10).symm.trans hF
              obtain ⟨q11, eq11, hF⟩ := bind_some' hF
              obtain rfl := Option.some.inj hF
              exact (Fr_tr (Fr_tr (Fr_tr (Fr_tr (Fr_tr Fr.rf (Fr_mono (fr_X8_expectMember eq2) (fun a j h => by unfold Wr_X8_expectMember at h; unfold Wr_X8_readOwns; omega))) (Fr_mono (fr_X8_expectMember eq4) (fun a j h => by unfold Wr_X8_expectMember at h; unfold Wr_X8_readOwns; omega))) (Fr_mono (fr_X8_expectNumber eq7) (fun a j h => by unfold Wr_X8_expectNumber at h; unfold Wr_X8_readOwns; omega))) (Fr_mono (fr_X8_expectNumber eq9) (fun a j h => by unfold Wr_X8_expectNumber at h; unfold Wr_X8_readOwns; omega))) (Fr_mono (fr_X7_add eq11) (fun a j h => by unfold Wr_X7_add at h; unfold Wr_X8_readOwns; omega)))
        · have hF := (if_neg c6).symm.trans hF
          obtain ⟨q12, eq12, hF⟩ := bind_some' hF
          obtain rfl := Option.some.inj hF
          exact (Fr_tr (Fr_tr (Fr_tr Fr.rf (Fr_mono (fr_X8_expectMember eq2) (fun a j h => by unfold Wr_X8_expectMember at h; unfold Wr_X8_readOwns; omega))) (Fr_mono (fr_X8_expectMember eq4) (fun a j h => by unfold Wr_X8_expectMember at h; unfold Wr_X8_readOwns; omega))) (Fr_mono (fr_X8_fail eq12) (fun a j h => by unfold Wr_X8_fail at h; unfold Wr_X8_readOwns; omega)))
  · have hF := (if_neg c1).symm.trans hF
    obtain ⟨q13, eq13, hF⟩ := bind_some' hF
    obtain rfl := Option.some.inj hF
    exact (Fr_tr Fr.rf (Fr_mono (fr_X8_fail eq13) (fun a j h => by unfold Wr_X8_fail at h; unfold Wr_X8_readOwns; omega)))
def Wr_X8_readPeriod (v1 : Nat) (a : Nat) (j : Int) : Prop := ((v1 + 4 ≤ a ∧ a ≤ v1 + 7)) ∨ (a = v1 ∧ j = 9) ∨ (a = 1 ∧ j = 10) ∨ (a = 1 ∧ j = 3) ∨ (a = 1 ∧ j = 4) ∨ (a = 1 ∧ j = 5) ∨ (a = 1 ∧ j = 6) ∨ (a = 1 ∧ j = 9)
theorem fr_X8_readPeriod {N : Nat} {v1 : Nat} {σ : Sto} {res : Int × Sto} (hF : F_X8_readPeriod N v1 σ = some res) : Fr (Wr_X8_readPeriod v1) σ res.2 := by
  unfold F_X8_readPeriod at hF
  by_cases c1 : (σ.1 v1 9) < 12
  · have hF := (if_pos c1).symm.trans hF
    obtain ⟨q2, eq2, hF⟩ := bind_some' hF
    by_cases c3 : q2.1 = 0
    · have hF := (if_pos c3).symm.trans hF
      obtain rfl := Option.some.inj hF
      exact (Fr_tr Fr.rf (Fr_mono (fr_X8_expectMember eq2) (fun a j h => by unfold Wr_X8_expectMember at h; unfold Wr_X8_readPeriod; omega)))
    · have hF := (if_neg c3).symm.trans hF
      obtain ⟨b4, hF⟩ := inb_some hF
      obtain ⟨q5, eq5, hF⟩ := bind_some' hF
      by_cases c6 : q5.1 = 0
      · have hF := (if_pos c6).symm.trans hF
        obtain rfl := Option.some.inj hF
        exact (Fr_tr (Fr_up (Fr_tr Fr.rf (Fr_mono (fr_X8_expectMember eq2) (fun a j h => by unfold Wr_X8_expectMember at h; unfold Wr_X8_readPeriod; omega))) (by unfold Wr_X8_readPeriod; omega)) (Fr_mono (fr_X8_expectNumber eq5) (fun a j h => by unfold Wr_X8_expectNumber at h; unfold Wr_X8_readPeriod; omega)))
      · have hF := (if_neg c6).symm.trans hF
        obtain ⟨q7, eq7, hF⟩ := bind_some' hF
        by_cases c8 : q7.1 = 0
        · have hF := (if_pos c8).symm.trans hF
          obtain rfl := Option.some.inj hF
          exact (Fr_tr (Fr_up (Fr_tr (Fr_up (Fr_tr Fr.rf (Fr_mono (fr_X8_expectMember eq2) (fun a j h => by unfold Wr_X8_expectMember at h; unfold Wr_X8_readPeriod; omega))) (by unfold Wr_X8_readPeriod; omega)) (Fr_mono (fr_X8_expectNumber eq5) (fun a j h => by unfold Wr_X8_expectNumber at h; unfold Wr_X8_readPeriod; omega))) (by unfold Wr_X8_readPeriod; omega)) (Fr_mono (fr_X8_expectNumber eq7) (fun a j h => by unfold Wr_X8_expectNumber at h; unfold Wr_X8_readPeriod; omega)))
        · have hF := (if_neg c8).symm.trans hF
          obtain ⟨q9, eq9, hF⟩ := bind_some' hF
          by_cases c10 : q9 = 0
          · have hF := (if_pos c10).symm.trans hF
            obtain ⟨q11, eq11, hF⟩ := bind_some' hF
            by_cases c12 : q11.1 = 0
            · have hF := (if_pos c12).symm.trans hF
              obtain rfl := Option.some.inj hF
              exact (Fr_tr (Fr_up (Fr_tr (Fr_up (Fr_tr (Fr_up (Fr_tr Fr.rf (Fr_mono (fr_X8_expectMember eq2) (fun a j h => by unfold Wr_X8_expectMember at h; unfold Wr_X8_readPeriod; omega))) (by unfold Wr_X8_readPeriod; omega)) (Fr_mono (fr_X8_expectNumber eq5) (fun a j h => by unfold Wr_X8_expectNumber at h; unfold Wr_X8_readPeriod; omega))) (by unfold Wr_X8_readPeriod; omega)) (Fr_mono (fr_X8_expectNumber eq7) (fun a j h => by unfold Wr_X8_expectNumber at h; unfold Wr_X8_readPeriod; omega))) (by unfold Wr_X8_readPeriod; omega)) (Fr_mono (fr_X8_expectNumber eq11) (fun a j h => by unfold Wr_X8_expectNumber at h; unfold Wr_X8_readPeriod; omega)))
            · have hF := (if_neg c12).symm.trans hF
              obtain rfl := Option.some.inj hF
              exact (Fr_up (Fr_up (Fr_tr (Fr_up (Fr_tr (Fr_up (Fr_tr (Fr_up (Fr_tr Fr.rf (Fr_mono (fr_X8_expectMember eq2) (fun a j h => by unfold Wr_X8_expectMember at h; unfold Wr_X8_readPeriod; omega))) (by unfold Wr_X8_readPeriod; omega)) (Fr_mono (fr_X8_expectNumber eq5) (fun a j h => by unfold Wr_X8_expectNumber at h; unfold Wr_X8_readPeriod; omega))) (by unfold Wr_X8_readPeriod; omega)) (Fr_mono (fr_X8_expectNumber eq7) (fun a j h => by unfold Wr_X8_expectNumber at h; unfold Wr_X8_readPeriod; omega))) (by unfold Wr_X8_readPeriod; omega)) (Fr_mono (fr_X8_expectNumber eq11) (fun a j h => by unfold Wr_X8_expectNumber at h; unfold Wr_X8_readPeriod; omega))) (by unfold Wr_X8_readPeriod; omega)) (by unfold Wr_X8_readPeriod; omega))
          · have hF := (if_neg c10).symm.trans hF
            obtain ⟨q13, eq13, hF⟩ := bind_some' hF
            obtain rfl := Option.some.inj hF
            exact (Fr_tr (Fr_up (Fr_tr (Fr_up (Fr_tr (Fr_up (Fr_tr Fr.rf (Fr_mono (fr_X8_expectMember eq2) (fun a j h => by unfold Wr_X8_expectMember at h; unfold Wr_X8_readPeriod; omega))) (by unfold Wr_X8_readPeriod; omega)) (Fr_mono (fr_X8_expectNumber eq5) (fun a j h => by unfold Wr_X8_expectNumber at h; unfold Wr_X8_readPeriod; omega))) (by unfold Wr_X8_readPeriod; omega)) (Fr_mono (fr_X8_expectNumber eq7) (fun a j h => by unfold Wr_X8_expectNumber at h; unfold Wr_X8_readPeriod; omega))) (by unfold Wr_X8_readPeriod; omega)) (Fr_mono (fr_X8_fail eq13) (fun a j h => by unfold Wr_X8_fail at h; unfold Wr_X8_readPeriod; omega)))
  · have hF := (if_neg c1).symm.trans hF
    obtain ⟨q14, eq14, hF⟩ := bind_some' hF
    obtain rfl := Option.some.inj hF
    exact (Fr_tr Fr.rf (Fr_mono (fr_X8_fail eq14) (fun a j h => by unfold Wr_X8_fail at h; unfold Wr_X8_readPeriod; omega)))
def Wr_X8_readSetting (v1 : Nat) (a : Nat) (j : Int) : Prop := (a = v1 ∧ j = 10) ∨ (a = v1 ∧ j = 11) ∨ (a = v1 ∧ j = 12) ∨ (a = v1 ∧ j = 13) ∨ (a = 1 ∧ j = 10) ∨ (a = 1 ∧ j = 3) ∨ (a = 1 ∧ j = 4) ∨ (a = 1 ∧ j = 5) ∨ (a = 1 ∧ j = 6) ∨ (a = 1 ∧ j = 8) ∨ (a = 1 ∧ j = 9)
theorem fr_X8_readSetting {N : Nat} {v1 : Nat} {v2 : Int} {σ : Sto} {res : Int × Sto} (hF : F_X8_readSetting N v1 v2 σ = some res) : Fr (Wr_X8_readSetting v1) σ res.2 := by
  unfold F_X8_readSetting at hF
  by_cases c1 : (jand (jshr (σ.1 1 8) v2) 1) = 1
  · have hF := (if_pos c1).symm.trans hF
    obtain ⟨q13, eq13, hF⟩ := bind_some' hF
    obtain rfl := Option.some.inj hF
    exact (Fr_tr Fr.rf (Fr_mono (fr_X8_fail eq13) (fun a j h => by unfold Wr_X8_fail at h; unfold Wr_X8_readSetting; omega)))
  · have hF := (if_neg c1).symm.trans hF
    by_cases c2 : v2 = 3
    · have hF := (if_pos c2).symm.trans hF
      obtain ⟨q3, eq3, hF⟩ := bind_some' hF
      by_cases c4 : q3.1 = 0
      · have hF := (if_pos c4).symm.trans hF
        obtain rfl := Option.some.inj hF
        exact (Fr_tr (Fr_up Fr.rf (by unfold Wr_X8_readSetting; omega)) (Fr_mono (fr_X8_expectNumber eq3) (fun a j h => by unfold Wr_X8_expectNumber at h; unfold Wr_X8_readSetting; omega)))
      · have hF := (if_neg c4).symm.trans hF
        obtain rfl := Option.some.inj hF
        exact (Fr_up (Fr_tr (Fr_up Fr.rf (by unfold Wr_X8_readSetting; omega)) (Fr_mono (fr_X8_expectNumber eq3) (fun a j h => by unfold Wr_X8_expectNumber at h; unfold Wr_X8_readSetting; omega))) (by unfold Wr_X8_readSetting; omega))
    · have hF := (if_neg c2).symm.trans hF
      by_cases c5 : v2 = 4
      · have hF := (if_pos c5).symm.trans hF
        obtain ⟨q6, eq6, hF⟩ := bind_some' hF
        by_cases c7 : q6.1 = 0
        · have hF := (if_pos c7).symm.trans hF
          obtain rfl := Option.some.inj hF
          exact (Fr_tr (Fr_up Fr.rf (by unfold Wr_X8_readSetting; omega)) (Fr_mono (fr_X8_expectNumber eq6) (fun a j h => by unfold Wr_X8_expectNumber at h; unfold Wr_X8_readSetting; omega)))
        · have hF := (if_neg c7).symm.trans hF
          obtain rfl := Option.some.inj hF
          exact (Fr_up (Fr_tr (Fr_up Fr.rf (by unfold Wr_X8_readSetting; omega)) (Fr_mono (fr_X8_expectNumber eq6) (fun a j h => by unfold Wr_X8_expectNumber at h; unfold Wr_X8_readSetting; omega))) (by unfold Wr_X8_readSetting; omega))
      · have hF := (if_neg c5).symm.trans hF
        by_cases c8 : v2 = 5
        · have hF := (if_pos c8).symm.trans hF
          obtain ⟨q9, eq9, hF⟩ := bind_some' hF
          by_cases c10 : q9.1 = 0
          · have hF := (if_pos c10).symm.trans hF
            obtain rfl := Option.some.inj hF
            exact (Fr_tr (Fr_up Fr.rf (by unfold Wr_X8_readSetting; omega)) (Fr_mono (fr_X8_expectNumber eq9) (fun a j h => by unfold Wr_X8_expectNumber at h; unfold Wr_X8_readSetting; omega)))
          · have hF := (if_neg c10).symm.trans hF
            obtain rfl := Option.some.inj hF
            exact (Fr_up (Fr_tr (Fr_up Fr.rf (by unfold Wr_X8_readSetting; omega)) (Fr_mono (fr_X8_expectNumber eq9) (fun a j h => by unfold Wr_X8_expectNumber at h; unfold Wr_X8_readSetting; omega))) (by unfold Wr_X8_readSetting; omega))
        · have hF := (if_neg c8).symm.trans hF
          obtain ⟨q11, eq11, hF⟩ := bind_some' hF
          by_cases c12 : q11.1 = 0
          · have hF := (if_pos c12).symm.trans hF
            obtain rfl := Option.some.inj hF
            exact (Fr_tr (Fr_up Fr.rf (by unfold Wr_X8_readSetting; omega)) (Fr_mono (fr_X8_expectNumber eq11) (fun a j h => by unfold Wr_X8_expectNumber at h; unfold Wr_X8_readSetting; omega)))
          · have hF := (if_neg c12).symm.trans hF
            obtain rfl := Option.some.inj hF
            exact (Fr_up (Fr_tr (Fr_up Fr.rf (by unfold Wr_X8_readSetting; omega)) (Fr_mono (fr_X8_expectNumber eq11) (fun a j h => by unfold Wr_X8_expectNumber at h; unfold Wr_X8_readSetting; omega))) (by unfold Wr_X8_readSetting; omega))
def Wr_X8_readLine (v1 : Nat) (a : Nat) (j : Int) : Prop := ((v1 + 1 ≤ a ∧ a ≤ v1 + 7)) ∨ ((v1 + 9 ≤ a ∧ a ≤ v1 + 12)) ∨ (a = v1 ∧ j = 10) ∨ (a = v1 ∧ j = 11) ∨ (a = v1 ∧ j = 12) ∨ (a = v1 ∧ j = 13) ∨ (a = v1 + 8 ∧ j = 4) ∨ (a = v1 ∧ j = 8) ∨ (a = v1 ∧ j = 9) ∨ (a = 1 ∧ j = 10) ∨ (a = 1 ∧ j = 3) ∨ (a = 1 ∧ j = 4) ∨ (a = 1 ∧ j = 5) ∨ (a = 1 ∧ j = 6) ∨ (a = 1 ∧ j = 8) ∨ (a = 1 ∧ j = 9)
theorem fr_X8_readLine {N : Nat} {v1 : Nat} {σ : Sto} {res : Int × Sto} (hF : F_X8_readLine N v1 σ = some res) : Fr (Wr_X8_readLine v1) σ res.2 := by
  unfold F_X8_readLine at hF
  by_cases c1 : (σ.1 1 4) = 1
  · have hF := (if_pos c1).symm.trans hF
    by_cases c2 : (σ.1 1 6) = 0
    · have hF := (if_pos c2).symm.trans hF
      obtain ⟨q3, eq3, hF⟩ := bind_some' hF
      obtain rfl := Option.some.inj hF
      exact (Fr_tr Fr.rf (Fr_mono (fr_X8_readMember eq3) (fun a j h => by unfold Wr_X8_readMember at h; unfold Wr_X8_readLine; omega)))
    · have hF := (if_neg c2).symm.trans hF
      by_cases c4 : (σ.1 1 6) = 1
      · have hF := (if_pos c4).symm.trans hF
        obtain ⟨q5, eq5, hF⟩ := bind_some' hF
        obtain rfl := Option.some.inj hF
        exact (Fr_tr Fr.rf (Fr_mono (fr_X8_readOwns eq5) (fun a j h => by unfold Wr_X8_readOwns at h; unfold Wr_X8_readLine; omega)))
      · have hF := (if_neg c4).symm.trans hF
        by_cases c6 : (σ.1 1 6) = 2
        · have hF := (if_pos c6).symm.trans hF
          obtain ⟨q7, eq7, hF⟩ := bind_some' hF
          obtain rfl := Option.some.inj hF
          exact (Fr_tr Fr.rf (Fr_mono (fr_X8_readPeriod eq7) (fun a j h => by unfold Wr_X8_readPeriod at h; unfold Wr_X8_readLine; omega)))
        · have hF := (if_neg c6).symm.trans hF
          obtain ⟨q8, eq8, hF⟩ := bind_some' hF
          obtain rfl := Option.some.inj hF
          exact (Fr_tr Fr.rf (Fr_mono (fr_X8_readSetting eq8) (fun a j h => by unfold Wr_X8_readSetting at h; unfold Wr_X8_readLine; omega)))
  · have hF := (if_neg c1).symm.trans hF
    obtain ⟨q9, eq9, hF⟩ := bind_some' hF
    obtain rfl := Option.some.inj hF
    exact (Fr_tr Fr.rf (Fr_mono (fr_X8_fail eq9) (fun a j h => by unfold Wr_X8_fail at h; unfold Wr_X8_readLine; omega)))
def Wr_X8_read (v1 : Nat) (a : Nat) (j : Int) : Prop := ((v1 + 1 ≤ a ∧ a ≤ v1 + 7)) ∨ ((v1 + 9 ≤ a ∧ a ≤ v1 + 12)) ∨ (a = v1 ∧ j = 10) ∨ (a = v1 ∧ j = 11) ∨ (a = v1 ∧ j = 12) ∨ (a = v1 ∧ j = 13) ∨ (a = v1 + 8 ∧ j = 4) ∨ (a = v1 ∧ j = 8) ∨ (a = v1 ∧ j = 9) ∨ (a = 1 ∧ j = 1) ∨ (a = 1 ∧ j = 10) ∨ (a = 1 ∧ j = 2) ∨ (a = 1 ∧ j = 3) ∨ (a = 1 ∧ j = 4) ∨ (a = 1 ∧ j = 5) ∨ (a = 1 ∧ j = 6) ∨ (a = 1 ∧ j = 7) ∨ (a = 1 ∧ j = 8) ∨ (a = 1 ∧ j = 9)
theorem fr_X8_read_B45 {N : Nat}  {nx45 : (Int × Sto) → Option (Int × Sto)} {v1 : Nat} {v3 : Int} {σ : Sto} {res : Int × Sto} (hnx45 : ∀ q, nx45 q = some res → Fr (Wr_X8_read v1) q.2 res.2) (hF : F_X8_read_B45 N nx45 v1 v3 σ = some res) : Fr (Wr_X8_read v1) σ res.2 := by
  unfold F_X8_read_B45 at hF
  by_cases c3 : 700 ≤ v3
  · have hF := (if_pos c3).symm.trans hF
    obtain rfl := Option.some.inj hF
    exact Fr.rf
  · have hF := (if_neg c3).symm.trans hF
    by_cases c4 : (σ.1 1 4) = 0
    · have hF := (if_pos c4).symm.trans hF
      obtain rfl := Option.some.inj hF
      exact Fr.rf
    · have hF := (if_neg c4).symm.trans hF
      obtain ⟨q5, eq5, hF⟩ := bind_some' hF
      by_cases c6 : q5.1 = 0
      · have hF := (if_pos c6).symm.trans hF
        obtain rfl := Option.some.inj hF
        exact (Fr_tr Fr.rf (Fr_mono (fr_X8_readLine eq5) (fun a j h => by unfold Wr_X8_readLine at h; unfold Wr_X8_read; omega)))
      · have hF := (if_neg c6).symm.trans hF
        obtain ⟨q7, eq7, hF⟩ := bind_some' hF
        by_cases c8 : q7.1 = 0
        · have hF := (if_pos c8).symm.trans hF
          obtain rfl := Option.some.inj hF
          exact (Fr_tr (Fr_tr Fr.rf (Fr_mono (fr_X8_readLine eq5) (fun a j h => by unfold Wr_X8_readLine at h; unfold Wr_X8_read; omega))) (Fr_mono (fr_X8_expect eq7) (fun a j h => by unfold Wr_X8_expect at h; unfold Wr_X8_read; omega)))
        · have hF := (if_neg c8).symm.trans hF
          obtain ⟨q9, eq9, hF⟩ := bind_some' hF
          exact Fr_tr (Fr_tr (Fr_up (Fr_tr (Fr_tr Fr.rf (Fr_mono (fr_X8_readLine eq5) (fun a j h => by unfold Wr_X8_readLine at h; unfold Wr_X8_read; omega))) (Fr_mono (fr_X8_expect eq7) (fun a j h => by unfold Wr_X8_expect at h; unfold Wr_X8_read; omega))) (by unfold Wr_X8_read; omega)) (Fr_mono (fr_X8_next eq9) (fun a j h => by unfold Wr_X8_next at h; unfold Wr_X8_read; omega))) (hnx45 _ hF)
theorem fr_X8_read {N : Nat} {v1 : Nat} {v2 : Int} {σ : Sto} {res : Int × Sto} (hF : F_X8_read N v1 v2 σ = some res) : Fr (Wr_X8_read v1) σ res.2 := by
  unfold F_X8_read at hF
  obtain ⟨q1, eq1, hF⟩ := bind_some' hF
  obtain ⟨q2, eq2, hF⟩ := bind_some' hF
  exact Fr_tr (Fr_tr (Fr_tr (Fr_up (Fr_up (Fr_up (Fr_up (Fr_up (Fr_up (Fr_up Fr.rf (by unfold Wr_X8_read; omega)) (by unfold Wr_X8_read; omega)) (by unfold Wr_X8_read; omega)) (by unfold Wr_X8_read; omega)) (by unfold Wr_X8_read; omega)) (by unfold Wr_X8_read; omega)) (by unfold Wr_X8_read; omega)) (Fr_mono (fr_X0_clear eq1) (fun a j h => by unfold Wr_X0_clear at h; unfold Wr_X8_read; omega))) (Fr_mono (fr_X8_next eq2) (fun a j h => by unfold Wr_X8_next at h; unfold Wr_X8_read; omega))) (loopK_ind (res := res) (P := fun (q : Int × Sto) => Fr (Wr_X8_read v1) q.2 res.2) (fun nx q hn hF => fr_X8_read_B45 hn hF) N _ hF)
def Wr_X9_pay (a : Nat) (j : Int) : Prop := ((69 ≤ a ∧ a ≤ 72)) ∨ (a = 68 ∧ j = 4)
theorem fr_X9_pay {N : Nat} {v1 : Int} {v2 : Int} {v3 : Int} {σ : Sto} {res : Sto} (hF : F_X9_pay N v1 v2 v3 σ = some res) : Fr (Wr_X9_pay) σ res := by
  unfold F_X9_pay at hF
  obtain ⟨b1, hF⟩ := inb_some hF
  obtain ⟨b2, hF⟩ := inb_some hF
  obtain ⟨b3, hF⟩ := inb_some hF
  obtain ⟨b4, hF⟩ := inb_some hF
  obtain ⟨b5, hF⟩ := inb_some hF
  obtain rfl := Option.some.inj hF
  exact (Fr_up (Fr_up (Fr_up (Fr_up (Fr_up (Fr_up Fr.rf (by unfold Wr_X9_pay; omega)) (by unfold Wr_X9_pay; omega)) (by unfold Wr_X9_pay; omega)) (by unfold Wr_X9_pay; omega)) (by unfold Wr_X9_pay; omega)) (by unfold Wr_X9_pay; omega))
def Wr_X9_run (a : Nat) (j : Int) : Prop := ((69 ≤ a ∧ a ≤ 72)) ∨ (a = 68 ∧ j = 4)
theorem fr_X9_run_J81 {N : Nat}  {nx7 : (Int × Sto) → Option (Sto)} {v1 : Int} {v2 : Int} {v3 : Int} {v4 : Int} {σ : Sto} {res : Sto} (hnx7 : ∀ q, nx7 q = some res → Fr (Wr_X9_run) q.2 res) (hF : F_X9_run_J81 N nx7 v1 v2 v3 v4 σ = some res) : Fr (Wr_X9_run) σ res := by
  unfold F_X9_run_J81 at hF
  obtain ⟨b2, hF⟩ := inb_some hF
  by_cases c3 : (σ.1 69 v3) < 0
  · have hF := (if_pos c3).symm.trans hF
    obtain ⟨b4, hF⟩ := inb_some hF
    obtain ⟨q5, eq5, hF⟩ := bind_some' hF
    exact Fr_tr (Fr_tr Fr.rf (Fr_mono (fr_X9_pay eq5) (fun a j h => by unfold Wr_X9_pay at h; unfold Wr_X9_run; omega))) (hnx7 _ hF)
  · have hF := (if_neg c3).symm.trans hF
    obtain rfl := Option.some.inj hF
    exact Fr.rf
theorem fr_X9_run_J73 {N : Nat}  {nx7 : (Int × Sto) → Option (Sto)} {nx20 : (Int × Int × Int) → Option (Sto)} {v1 : Int} {v2 : Int} {v3 : Int} {v5 : Int} {t0 : Int} {σ : Sto} {res : Sto} (hnx7 : ∀ q, nx7 q = some res → Fr (Wr_X9_run) q.2 res) (hnx20 : ∀ q, nx20 q = some res → Fr (Wr_X9_run) σ res) (hF : F_X9_run_J73 N nx7 nx20 v1 v2 v3 v5 t0 σ = some res) : Fr (Wr_X9_run) σ res := by
  unfold F_X9_run_J73 at hF
  exact hnx20 _ hF
theorem fr_X9_run_J48 {N : Nat}  {nx7 : (Int × Sto) → Option (Sto)} {nx20 : (Int × Int × Int) → Option (Sto)} {v1 : Int} {v2 : Int} {v4 : Int} {v5 : Int} {t0 : Int} {σ : Sto} {res : Sto} (hnx7 : ∀ q, nx7 q = some res → Fr (Wr_X9_run) q.2 res) (hnx20 : ∀ q, nx20 q = some res → Fr (Wr_X9_run) σ res) (hF : F_X9_run_J48 N nx7 nx20 v1 v2 v4 v5 t0 σ = some res) : Fr (Wr_X9_run) σ res := by
  unfold F_X9_run_J48 at hF
  obtain ⟨b7, hF⟩ := inb_some hF
  obtain ⟨b8, hF⟩ := inb_some hF
  by_cases c9 : (σ.1 69 v5) ≤ (σ.1 69 v4)
  · have hF := (if_pos c9).symm.trans hF
    exact fr_X9_run_J73 hnx7 hnx20 hF
  · have hF := (if_neg c9).symm.trans hF
    exact fr_X9_run_J73 hnx7 hnx20 hF
theorem fr_X9_run_B20 {N : Nat}  {nx7 : (Int × Sto) → Option (Sto)} {nx20 : (Int × Int × Int) → Option (Sto)} {v1 : Int} {v2 : Int} {v3 : Int} {v4 : Int} {v5 : Int} {σ : Sto} {res : Sto} (hnx7 : ∀ q, nx7 q = some res → Fr (Wr_X9_run) q.2 res) (hnx20 : ∀ q, nx20 q = some res → Fr (Wr_X9_run) σ res) (hF : F_X9_run_B20 N nx7 nx20 v1 v2 v3 v4 v5 σ = some res) : Fr (Wr_X9_run) σ res := by
  unfold F_X9_run_B20 at hF
  by_cases c6 : v1 ≤ v5
  · have hF := (if_pos c6).symm.trans hF
    exact fr_X9_run_J81 hnx7 hF
  · have hF := (if_neg c6).symm.trans hF
    obtain ⟨b10, hF⟩ := inb_some hF
    obtain ⟨b11, hF⟩ := inb_some hF
    by_cases c12 : (σ.1 69 v3) ≤ (σ.1 69 v5)
    · have hF := (if_pos c12).symm.trans hF
      exact fr_X9_run_J48 hnx7 hnx20 hF
    · have hF := (if_neg c12).symm.trans hF
      exact fr_X9_run_J48 hnx7 hnx20 hF
theorem fr_X9_run_B7 {N : Nat}  {nx7 : (Int × Sto) → Option (Sto)} {v1 : Int} {v2 : Int} {σ : Sto} {res : Sto} (hnx7 : ∀ q, nx7 q = some res → Fr (Wr_X9_run) q.2 res) (hF : F_X9_run_B7 N nx7 v1 v2 σ = some res) : Fr (Wr_X9_run) σ res := by
  unfold F_X9_run_B7 at hF
  by_cases c1 : v1 ≤ v2
  · have hF := (if_pos c1).symm.trans hF
    obtain rfl := Option.some.inj hF
    exact Fr.rf
  · have hF := (if_neg c1).symm.trans hF
    exact (loopK_ind (res := res) (P := fun (q : Int × Int × Int) => Fr (Wr_X9_run) σ res) (fun nx q hn hF => fr_X9_run_B20 hnx7 hn hF) N _ hF)
theorem fr_X9_run {N : Nat} {v1 : Int} {σ : Sto} {res : Sto} (hF : F_X9_run N v1 σ = some res) : Fr (Wr_X9_run) σ res := by
  unfold F_X9_run at hF
  exact Fr_tr (Fr_up Fr.rf (by unfold Wr_X9_run; omega)) (loopK_ind (res := res) (P := fun (q : Int × Sto) => Fr (Wr_X9_run) q.2 res) (fun nx q hn hF => fr_X9_run_B7 hn hF) N _ hF)
def Wr_X10_stepsBetween (a : Nat) (j : Int) : Prop := (a = 51)
theorem fr_X10_stepsBetween_J127 {N : Nat}   {v2 : Int} {σ : Sto} {res : Int × Sto} (hF : F_X10_stepsBetween_J127 N  v2 σ = some res) : Fr (Wr_X10_stepsBetween) σ res.2 := by
  unfold F_X10_stepsBetween_J127 at hF
  obtain ⟨b1, hF⟩ := inb_some hF
  obtain rfl := Option.some.inj hF
  exact Fr.rf
theorem fr_X10_stepsBetween_J121 {N : Nat}  {nx2 : (Int × Sto) → Option (Int × Sto)} {v1 : Int} {v2 : Int} {v3 : Int} {σ : Sto} {res : Int × Sto} (hnx2 : ∀ q, nx2 q = some res → Fr (Wr_X10_stepsBetween) q.2 res.2) (hF : F_X10_stepsBetween_J121 N nx2 v1 v2 v3 σ = some res) : Fr (Wr_X10_stepsBetween) σ res.2 := by
  unfold F_X10_stepsBetween_J121 at hF
  exact Fr_tr Fr.rf (hnx2 _ hF)
theorem fr_X10_stepsBetween_J115 {N : Nat}  {nx2 : (Int × Sto) → Option (Int × Sto)} {nx30 : (Int × Sto) → Option (Int × Sto)} {v1 : Int} {v2 : Int} {v3 : Int} {v4 : Int} {σ : Sto} {res : Int × Sto} (hnx2 : ∀ q, nx2 q = some res → Fr (Wr_X10_stepsBetween) q.2 res.2) (hnx30 : ∀ q, nx30 q = some res → Fr (Wr_X10_stepsBetween) q.2 res.2) (hF : F_X10_stepsBetween_J115 N nx2 nx30 v1 v2 v3 v4 σ = some res) : Fr (Wr_X10_stepsBetween) σ res.2 := by
  unfold F_X10_stepsBetween_J115 at hF
  exact Fr_tr Fr.rf (hnx30 _ hF)
theorem fr_X10_stepsBetween_J100 {N : Nat}  {nx2 : (Int × Sto) → Option (Int × Sto)} {nx30 : (Int × Sto) → Option (Int × Sto)} {v1 : Int} {v2 : Int} {v3 : Int} {v4 : Int} {σ : Sto} {res : Int × Sto} (hnx2 : ∀ q, nx2 q = some res → Fr (Wr_X10_stepsBetween) q.2 res.2) (hnx30 : ∀ q, nx30 q = some res → Fr (Wr_X10_stepsBetween) q.2 res.2) (hF : F_X10_stepsBetween_J100 N nx2 nx30 v1 v2 v3 v4 σ = some res) : Fr (Wr_X10_stepsBetween) σ res.2 := by
  unfold F_X10_stepsBetween_J100 at hF
  obtain ⟨b6, hF⟩ := inb_some hF
  obtain ⟨b7, hF⟩ := inb_some hF
  exact Fr_tr (Fr_up Fr.rf (by unfold Wr_X10_stepsBetween; omega)) (fr_X10_stepsBetween_J115 hnx2 hnx30 hF)
theorem fr_X10_stepsBetween_J66 {N : Nat}  {nx2 : (Int × Sto) → Option (Int × Sto)} {nx30 : (Int × Sto) → Option (Int × Sto)} {v1 : Int} {v2 : Int} {v3 : Int} {v4 : Int} {t0 : Int} {σ : Sto} {res : Int × Sto} (hnx2 : ∀ q, nx2 q = some res → Fr (Wr_X10_stepsBetween) q.2 res.2) (hnx30 : ∀ q, nx30 q = some res → Fr (Wr_X10_stepsBetween) q.2 res.2) (hF : F_X10_stepsBetween_J66 N nx2 nx30 v1 v2 v3 v4 t0 σ = some res) : Fr (Wr_X10_stepsBetween) σ res.2 := by
  unfold F_X10_stepsBetween_J66 at hF
  by_cases c5 : t0 = 0
  · have hF := (if_pos c5).symm.trans hF
    exact fr_X10_stepsBetween_J115 hnx2 hnx30 hF
  · have hF := (if_neg c5).symm.trans hF
    obtain ⟨b8, hF⟩ := inb_some hF
    by_cases c9 : (σ.1 51 v3) < 0
    · have hF := (if_pos c9).symm.trans hF
      exact fr_X10_stepsBetween_J100 hnx2 hnx30 hF
    · have hF := (if_neg c9).symm.trans hF
      obtain ⟨b10, hF⟩ := inb_some hF
      by_cases c11 : (σ.1 51 v3) ≤ (ja (σ.1 51 v4) 1)
      · have hF := (if_pos c11).symm.trans hF
        exact fr_X10_stepsBetween_J115 hnx2 hnx30 hF
      · have hF := (if_neg c11).symm.trans hF
        exact fr_X10_stepsBetween_J100 hnx2 hnx30 hF
theorem fr_X10_stepsBetween_J65 {N : Nat}  {nx2 : (Int × Sto) → Option (Int × Sto)} {nx30 : (Int × Sto) → Option (Int × Sto)} {v1 : Int} {v2 : Int} {v3 : Int} {v4 : Int} {σ : Sto} {res : Int × Sto} (hnx2 : ∀ q, nx2 q = some res → Fr (Wr_X10_stepsBetween) q.2 res.2) (hnx30 : ∀ q, nx30 q = some res → Fr (Wr_X10_stepsBetween) q.2 res.2) (hF : F_X10_stepsBetween_J65 N nx2 nx30 v1 v2 v3 v4 σ = some res) : Fr (Wr_X10_stepsBetween) σ res.2 := by
  unfold F_X10_stepsBetween_J65 at hF
  exact fr_X10_stepsBetween_J66 hnx2 hnx30 hF
theorem fr_X10_stepsBetween_B30 {N : Nat}  {nx2 : (Int × Sto) → Option (Int × Sto)} {nx30 : (Int × Sto) → Option (Int × Sto)} {v1 : Int} {v2 : Int} {v3 : Int} {v4 : Int} {σ : Sto} {res : Int × Sto} (hnx2 : ∀ q, nx2 q = some res → Fr (Wr_X10_stepsBetween) q.2 res.2) (hnx30 : ∀ q, nx30 q = some res → Fr (Wr_X10_stepsBetween) q.2 res.2) (hF : F_X10_stepsBetween_B30 N nx2 nx30 v1 v2 v3 v4 σ = some res) : Fr (Wr_X10_stepsBetween) σ res.2 := by
  unfold F_X10_stepsBetween_B30 at hF
  by_cases c4 : v3 ≤ v4
  · have hF := (if_pos c4).symm.trans hF
    exact fr_X10_stepsBetween_J121 hnx2 hF
  · have hF := (if_neg c4).symm.trans hF
    obtain ⟨b12, hF⟩ := inb_some hF
    by_cases c13 : (σ.1 51 v4) < 0
    · have hF := (if_pos c13).symm.trans hF
      exact fr_X10_stepsBetween_J65 hnx2 hnx30 hF
    · have hF := (if_neg c13).symm.trans hF
      obtain ⟨b14, hF⟩ := inb_some hF
      by_cases c15 : (σ.1 47 (ja (jm v4 8) v3)) ≤ 0
      · have hF := (if_pos c15).symm.trans hF
        exact fr_X10_stepsBetween_J65 hnx2 hnx30 hF
      · have hF := (if_neg c15).symm.trans hF
        exact fr_X10_stepsBetween_J66 hnx2 hnx30 hF
theorem fr_X10_stepsBetween_J26 {N : Nat}  {nx2 : (Int × Sto) → Option (Int × Sto)} {v1 : Int} {v2 : Int} {v3 : Int} {t1 : Int} {t2 : Int} {σ : Sto} {res : Int × Sto} (hnx2 : ∀ q, nx2 q = some res → Fr (Wr_X10_stepsBetween) q.2 res.2) (hF : F_X10_stepsBetween_J26 N nx2 v1 v2 v3 t1 t2 σ = some res) : Fr (Wr_X10_stepsBetween) σ res.2 := by
  unfold F_X10_stepsBetween_J26 at hF
  obtain ⟨b3, hF⟩ := inb_some hF
  exact Fr_tr (Fr_up Fr.rf (by unfold Wr_X10_stepsBetween; omega)) (loopK_ind (res := res) (P := fun (q : Int × Sto) => Fr (Wr_X10_stepsBetween) q.2 res.2) (fun nx q hn hF => fr_X10_stepsBetween_B30 hnx2 hn hF) N _ hF)
theorem fr_X10_stepsBetween_B2 {N : Nat}  {nx2 : (Int × Sto) → Option (Int × Sto)} {v1 : Int} {v2 : Int} {v3 : Int} {σ : Sto} {res : Int × Sto} (hnx2 : ∀ q, nx2 q = some res → Fr (Wr_X10_stepsBetween) q.2 res.2) (hF : F_X10_stepsBetween_B2 N nx2 v1 v2 v3 σ = some res) : Fr (Wr_X10_stepsBetween) σ res.2 := by
  unfold F_X10_stepsBetween_B2 at hF
  by_cases c2 : (σ.1 46 5) ≤ v3
  · have hF := (if_pos c2).symm.trans hF
    exact fr_X10_stepsBetween_J127  hF
  · have hF := (if_neg c2).symm.trans hF
    by_cases c16 : v3 = v1
    · have hF := (if_pos c16).symm.trans hF
      exact fr_X10_stepsBetween_J26 hnx2 hF
    · have hF := (if_neg c16).symm.trans hF
      exact fr_X10_stepsBetween_J26 hnx2 hF
theorem fr_X10_stepsBetween {N : Nat} {v1 : Int} {v2 : Int} {σ : Sto} {res : Int × Sto} (hF : F_X10_stepsBetween N v1 v2 σ = some res) : Fr (Wr_X10_stepsBetween) σ res.2 := by
  unfold F_X10_stepsBetween at hF
  exact (loopK_ind (res := res) (P := fun (q : Int × Sto) => Fr (Wr_X10_stepsBetween) q.2 res.2) (fun nx q hn hF => fr_X10_stepsBetween_B2 hn hF) N _ hF)
def Wr_X11_feed (a : Nat) (j : Int) : Prop := (a = 2) ∨ (a = 1 ∧ j = 1)
theorem fr_X11_feed {N : Nat} {v1 : Int} {v2 : Int} {v3 : Int} {v4 : Int} {v5 : Int} {σ : Sto} {res : Int × Sto} (hF : F_X11_feed N v1 v2 v3 v4 v5 σ = some res) : Fr (Wr_X11_feed) σ res.2 := by
  unfold F_X11_feed at hF
  by_cases c1 : (ja (σ.1 1 1) 20) ≤ 700
  · have hF := (if_pos c1).symm.trans hF
    obtain ⟨q2, eq2, hF⟩ := bind_some' hF
    obtain ⟨q3, eq3, hF⟩ := bind_some' hF
    obtain ⟨q4, eq4, hF⟩ := bind_some' hF
    obtain ⟨q5, eq5, hF⟩ := bind_some' hF
    obtain ⟨q6, eq6, hF⟩ := bind_some' hF
    obtain rfl := Option.some.inj hF
    exact (Fr_tr (Fr_tr (Fr_tr (Fr_tr (Fr_tr Fr.rf (Fr_mono (fr_X8_put eq2) (fun a j h => by unfold Wr_X8_put at h; unfold Wr_X11_feed; omega))) (Fr_mono (fr_X8_put eq3) (fun a j h => by unfold Wr_X8_put at h; unfold Wr_X11_feed; omega))) (Fr_mono (fr_X8_put eq4) (fun a j h => by unfold Wr_X8_put at h; unfold Wr_X11_feed; omega))) (Fr_mono (fr_X8_put eq5) (fun a j h => by unfold Wr_X8_put at h; unfold Wr_X11_feed; omega))) (Fr_mono (fr_X8_put eq6) (fun a j h => by unfold Wr_X8_put at h; unfold Wr_X11_feed; omega)))
  · have hF := (if_neg c1).symm.trans hF
    obtain rfl := Option.some.inj hF
    exact Fr.rf
def Wr_X11_forgetNet (a : Nat) (j : Int) : Prop := (a = 0 ∧ j = 16) ∨ (a = 0 ∧ j = 17)
theorem fr_X11_forgetNet {N : Nat}  {σ : Sto} {res : Sto} (hF : F_X11_forgetNet N  σ = some res) : Fr (Wr_X11_forgetNet) σ res := by
  unfold F_X11_forgetNet at hF
  obtain rfl := Option.some.inj hF
  exact (Fr_up (Fr_up Fr.rf (by unfold Wr_X11_forgetNet; omega)) (by unfold Wr_X11_forgetNet; omega))
def Wr_X11_text (a : Nat) (j : Int) : Prop := ((4 ≤ a ∧ a ≤ 10)) ∨ ((12 ≤ a ∧ a ≤ 15)) ∨ ((17 ≤ a ∧ a ≤ 23)) ∨ ((25 ≤ a ∧ a ≤ 28)) ∨ ((0 ≤ a ∧ a ≤ 1) ∧ j = 1) ∨ (a = 33 ∧ j = 1) ∨ (a = 1 ∧ j = 10) ∨ (a = 3 ∧ j = 10) ∨ (a = 16 ∧ j = 10) ∨ (a = 3 ∧ j = 11) ∨ (a = 16 ∧ j = 11) ∨ (a = 3 ∧ j = 12) ∨ (a = 16 ∧ j = 12) ∨ (a = 3 ∧ j = 13) ∨ (a = 16 ∧ j = 13) ∨ (a = 0 ∧ j = 16) ∨ (a = 0 ∧ j = 17) ∨ ((0 ≤ a ∧ a ≤ 1) ∧ j = 2) ∨ (a = 1 ∧ j = 3) ∨ (a = 29 ∧ j = 3) ∨ (a = 35 ∧ j = 3) ∨ (a = 1 ∧ j = 4) ∨ (a = 11 ∧ j = 4) ∨ (a = 24 ∧ j = 4) ∨ (a = 1 ∧ j = 5) ∨ (a = 1 ∧ j = 6) ∨ (a = 1 ∧ j = 7) ∨ (a = 1 ∧ j = 8) ∨ (a = 3 ∧ j = 8) ∨ (a = 16 ∧ j = 8) ∨ (a = 1 ∧ j = 9) ∨ (a = 3 ∧ j = 9) ∨ (a = 16 ∧ j = 9)
theorem fr_X11_text {N : Nat} {v1 : Int} {σ : Sto} {res : Int × Sto} (hF : F_X11_text N v1 σ = some res) : Fr (Wr_X11_text) σ res.2 := by
  unfold F_X11_text at hF
  by_cases c1 : v1 < 0
  · have hF := (if_pos c1).symm.trans hF
    obtain rfl := Option.some.inj hF
    exact Fr.rf
  · have hF := (if_neg c1).symm.trans hF
    by_cases c2 : v1 ≤ (σ.1 1 1)
    · have hF := (if_pos c2).symm.trans hF
      obtain ⟨b3, eb3, kb3, hF⟩ := asB_some hF
      obtain ⟨q4, eq4, hF⟩ := bind_some' hF
      by_cases c5 : q4.1 = 0
      · have hF := (if_pos c5).symm.trans hF
        obtain rfl := Option.some.inj hF
        exact (Fr_tr Fr.rf (Fr_mono (fr_X8_read eq4) (fun a j h => by unfold Wr_X8_read at h; unfold Wr_X11_text; have := bookc kb3; omega)))
      · have hF := (if_neg c5).symm.trans hF
        obtain ⟨b6, eb6, kb6, hF⟩ := asB_some hF
        obtain ⟨b7, eb7, kb7, hF⟩ := asB_some hF
        obtain ⟨q8, eq8, hF⟩ := bind_some' hF
        obtain ⟨q9, eq9, hF⟩ := bind_some' hF
        obtain ⟨q10, eq10, hF⟩ := bind_some' hF
        obtain rfl := Option.some.inj hF
        exact (Fr_tr (Fr_up (Fr_tr (Fr_tr (Fr_up (Fr_up (Fr_tr Fr.rf (Fr_mono (fr_X8_read eq4) (fun a j h => by unfold Wr_X8_read at h; unfold Wr_X11_text; have := bookc kb3; omega))) (by unfold Wr_X11_text; have := bookc kb3; have := bookc kb6; have := bookc kb7; omega)) (by unfold Wr_X11_text; have := bookc kb3; have := bookc kb6; have := bookc kb7; omega)) (Fr_mono (fr_X5_clear eq8) (fun a j h => by unfold Wr_X5_clear at h; unfold Wr_X11_text; have := bookc kb3; have := bookc kb6; have := bookc kb7; omega))) (Fr_mono (fr_X2_clear eq9) (fun a j h => by unfold Wr_X2_clear at h; unfold Wr_X11_text; have := bookc kb3; have := bookc kb6; have := bookc kb7; omega))) (by unfold Wr_X11_text; have := bookc kb3; have := bookc kb6; have := bookc kb7; omega)) (Fr_mono (fr_X11_forgetNet eq10) (fun a j h => by unfold Wr_X11_forgetNet at h; unfold Wr_X11_text; have := bookc kb3; have := bookc kb6; have := bookc kb7; omega)))
    · have hF := (if_neg c2).symm.trans hF
      obtain rfl := Option.some.inj hF
      exact Fr.rf
def Wr_X11_percent (a : Nat) (j : Int) : Prop := ((47 ≤ a ∧ a ≤ 49)) ∨ (a = 46 ∧ j = 5)
theorem fr_X11_percent {N : Nat} {v1 : Int} {v2 : Int} {v3 : Int} {σ : Sto} {res : Int × Sto} (hF : F_X11_percent N v1 v2 v3 σ = some res) : Fr (Wr_X11_percent) σ res.2 := by
  unfold F_X11_percent at hF
  obtain ⟨q1, eq1, hF⟩ := bind_some' hF
  by_cases c2 : q1 = 0
  · have hF := (if_pos c2).symm.trans hF
    obtain rfl := Option.some.inj hF
    exact Fr.rf
  · have hF := (if_neg c2).symm.trans hF
    obtain ⟨q3, eq3, hF⟩ := bind_some' hF
    by_cases c4 : q3 = 0
    · have hF := (if_pos c4).symm.trans hF
      obtain rfl := Option.some.inj hF
      exact Fr.rf
    · have hF := (if_neg c4).symm.trans hF
      obtain ⟨b5, eb5, kb5, hF⟩ := asB_some hF
      obtain ⟨q6, eq6, hF⟩ := bind_some' hF
      obtain ⟨b7, hF⟩ := inb_some hF
      obtain rfl := Option.some.inj hF
      exact (Fr_tr Fr.rf (Fr_mono (fr_X10_load eq6) (fun a j h => by unfold Wr_X10_load at h; unfold Wr_X11_percent; have := bookc kb5; omega)))
def Wr_X11_share (a : Nat) (j : Int) : Prop := ((47 ≤ a ∧ a ≤ 49)) ∨ (a = 46 ∧ j = 5)
theorem fr_X11_share {N : Nat} {v1 : Int} {v2 : Int} {v3 : Int} {σ : Sto} {res : Int × Sto} (hF : F_X11_share N v1 v2 v3 σ = some res) : Fr (Wr_X11_share) σ res.2 := by
  unfold F_X11_share at hF
  obtain ⟨q1, eq1, hF⟩ := bind_some' hF
  by_cases c2 : q1 = 0
  · have hF := (if_pos c2).symm.trans hF
    obtain rfl := Option.some.inj hF
    exact Fr.rf
  · have hF := (if_neg c2).symm.trans hF
    obtain ⟨q3, eq3, hF⟩ := bind_some' hF
    by_cases c4 : q3 = 0
    · have hF := (if_pos c4).symm.trans hF
      obtain rfl := Option.some.inj hF
      exact Fr.rf
    · have hF := (if_neg c4).symm.trans hF
      obtain ⟨b5, eb5, kb5, hF⟩ := asB_some hF
      obtain ⟨q6, eq6, hF⟩ := bind_some' hF
      obtain ⟨b7, hF⟩ := inb_some hF
      obtain ⟨q8, eq8, hF⟩ := bind_some' hF
      obtain rfl := Option.some.inj hF
      exact (Fr_tr Fr.rf (Fr_mono (fr_X10_load eq6) (fun a j h => by unfold Wr_X10_load at h; unfold Wr_X11_share; have := bookc kb5; omega)))
def Wr_X11_parts (a : Nat) (j : Int) : Prop := ((47 ≤ a ∧ a ≤ 49)) ∨ (a = 46 ∧ j = 5)
theorem fr_X11_parts {N : Nat} {v1 : Int} {v2 : Int} {v3 : Int} {σ : Sto} {res : Int × Sto} (hF : F_X11_parts N v1 v2 v3 σ = some res) : Fr (Wr_X11_parts) σ res.2 := by
  unfold F_X11_parts at hF
  obtain ⟨q1, eq1, hF⟩ := bind_some' hF
  by_cases c2 : q1 = 0
  · have hF := (if_pos c2).symm.trans hF
    obtain rfl := Option.some.inj hF
    exact Fr.rf
  · have hF := (if_neg c2).symm.trans hF
    obtain ⟨q3, eq3, hF⟩ := bind_some' hF
    by_cases c4 : q3 = 0
    · have hF := (if_pos c4).symm.trans hF
      obtain rfl := Option.some.inj hF
      exact Fr.rf
    · have hF := (if_neg c4).symm.trans hF
      obtain ⟨b5, eb5, kb5, hF⟩ := asB_some hF
      obtain ⟨q6, eq6, hF⟩ := bind_some' hF
      obtain ⟨b7, hF⟩ := inb_some hF
      obtain ⟨n8, hF⟩ := grd_some hF
      obtain ⟨n9, hF⟩ := grd_some hF
      obtain ⟨n10, hF⟩ := grd_some hF
      obtain rfl := Option.some.inj hF
      exact (Fr_tr Fr.rf (Fr_mono (fr_X10_load eq6) (fun a j h => by unfold Wr_X10_load at h; unfold Wr_X11_parts; have := bookc kb5; omega)))
def Wr_X11_controls (a : Nat) (j : Int) : Prop := ((47 ≤ a ∧ a ≤ 50)) ∨ (a = 46 ∧ j = 5)
theorem fr_X11_controls {N : Nat} {v1 : Int} {v2 : Int} {v3 : Int} {σ : Sto} {res : Int × Sto} (hF : F_X11_controls N v1 v2 v3 σ = some res) : Fr (Wr_X11_controls) σ res.2 := by
  unfold F_X11_controls at hF
  obtain ⟨q1, eq1, hF⟩ := bind_some' hF
  by_cases c2 : q1 = 0
  · have hF := (if_pos c2).symm.trans hF
    obtain rfl := Option.some.inj hF
    exact Fr.rf
  · have hF := (if_neg c2).symm.trans hF
    obtain ⟨q3, eq3, hF⟩ := bind_some' hF
    by_cases c4 : q3 = 0
    · have hF := (if_pos c4).symm.trans hF
      obtain rfl := Option.some.inj hF
      exact Fr.rf
    · have hF := (if_neg c4).symm.trans hF
      obtain ⟨b5, eb5, kb5, hF⟩ := asB_some hF
      obtain ⟨q6, eq6, hF⟩ := bind_some' hF
      obtain ⟨b7, eb7, kb7, hF⟩ := asB_some hF
      obtain ⟨q8, eq8, hF⟩ := bind_some' hF
      obtain ⟨b9, hF⟩ := inb_some hF
      obtain rfl := Option.some.inj hF
      exact (Fr_tr (Fr_tr Fr.rf (Fr_mono (fr_X10_load eq6) (fun a j h => by unfold Wr_X10_load at h; unfold Wr_X11_controls; have := bookc kb5; omega))) (Fr_mono (fr_X10_judge eq8) (fun a j h => by unfold Wr_X10_judge at h; unfold Wr_X11_controls; have := bookc kb5; have := bookc kb7; omega)))
def Wr_X11_related (a : Nat) (j : Int) : Prop := ((47 ≤ a ∧ a ≤ 50)) ∨ (a = 46 ∧ j = 5)
theorem fr_X11_related {N : Nat} {v1 : Int} {v2 : Int} {σ : Sto} {res : Int × Sto} (hF : F_X11_related N v1 v2 σ = some res) : Fr (Wr_X11_related) σ res.2 := by
  unfold F_X11_related at hF
  obtain ⟨b1, eb1, kb1, hF⟩ := asB_some hF
  obtain ⟨q2, eq2, hF⟩ := bind_some' hF
  by_cases c3 : q2 = 0
  · have hF := (if_pos c3).symm.trans hF
    obtain rfl := Option.some.inj hF
    exact Fr.rf
  · have hF := (if_neg c3).symm.trans hF
    obtain ⟨q4, eq4, hF⟩ := bind_some' hF
    by_cases c5 : q4 = 0
    · have hF := (if_pos c5).symm.trans hF
      obtain rfl := Option.some.inj hF
      exact Fr.rf
    · have hF := (if_neg c5).symm.trans hF
      obtain ⟨b6, eb6, kb6, hF⟩ := asB_some hF
      obtain ⟨q7, eq7, hF⟩ := bind_some' hF
      obtain ⟨b8, eb8, kb8, hF⟩ := asB_some hF
      obtain ⟨q9, eq9, hF⟩ := bind_some' hF
      obtain ⟨q10, eq10, hF⟩ := bind_some' hF
      obtain rfl := Option.some.inj hF
      exact (Fr_tr (Fr_tr Fr.rf (Fr_mono (fr_X10_load eq7) (fun a j h => by unfold Wr_X10_load at h; unfold Wr_X11_related; have := bookc kb1; have := bookc kb6; omega))) (Fr_mono (fr_X10_judge eq9) (fun a j h => by unfold Wr_X10_judge at h; unfold Wr_X11_related; have := bookc kb1; have := bookc kb6; have := bookc kb8; omega)))
def Wr_X11_groups (a : Nat) (j : Int) : Prop := ((47 ≤ a ∧ a ≤ 50)) ∨ (a = 46 ∧ j = 5)
theorem fr_X11_groups {N : Nat} {v1 : Int} {σ : Sto} {res : Int × Sto} (hF : F_X11_groups N v1 σ = some res) : Fr (Wr_X11_groups) σ res.2 := by
  unfold F_X11_groups at hF
  obtain ⟨q1, eq1, hF⟩ := bind_some' hF
  by_cases c2 : q1 = 0
  · have hF := (if_pos c2).symm.trans hF
    obtain rfl := Option.some.inj hF
    exact Fr.rf
  · have hF := (if_neg c2).symm.trans hF
    obtain ⟨b3, eb3, kb3, hF⟩ := asB_some hF
    obtain ⟨q4, eq4, hF⟩ := bind_some' hF
    obtain ⟨b5, eb5, kb5, hF⟩ := asB_some hF
    obtain ⟨q6, eq6, hF⟩ := bind_some' hF
    obtain ⟨q7, eq7, hF⟩ := bind_some' hF
    obtain rfl := Option.some.inj hF
    exact (Fr_tr (Fr_tr Fr.rf (Fr_mono (fr_X10_load eq4) (fun a j h => by unfold Wr_X10_load at h; unfold Wr_X11_groups; have := bookc kb3; omega))) (Fr_mono (fr_X10_judge eq6) (fun a j h => by unfold Wr_X10_judge at h; unfold Wr_X11_groups; have := bookc kb3; have := bookc kb5; omega)))
def Wr_X11_refreshNet (a : Nat) (j : Int) : Prop := ((47 ≤ a ∧ a ≤ 50)) ∨ ((53 ≤ a ∧ a ≤ 54)) ∨ ((56 ≤ a ∧ a ≤ 57)) ∨ (a = 0 ∧ j = 16) ∨ (a = 52 ∧ j = 2) ∨ (a = 46 ∧ j = 5)
theorem fr_X11_refreshNet {N : Nat}  {σ : Sto} {res : Sto} (hF : F_X11_refreshNet N  σ = some res) : Fr (Wr_X11_refreshNet) σ res := by
  unfold F_X11_refreshNet at hF
  by_cases c1 : (σ.1 0 16) = 0
  · have hF := (if_pos c1).symm.trans hF
    obtain ⟨b2, eb2, kb2, hF⟩ := asB_some hF
    obtain ⟨b3, eb3, kb3, hF⟩ := asB_some hF
    obtain ⟨q4, eq4, hF⟩ := bind_some' hF
    obtain ⟨b5, eb5, kb5, hF⟩ := asB_some hF
    obtain ⟨b6, eb6, kb6, hF⟩ := asB_some hF
    obtain ⟨b7, eb7, kb7, hF⟩ := asB_some hF
    obtain ⟨q8, eq8, hF⟩ := bind_some' hF
    obtain rfl := Option.some.inj hF
    exact (Fr_up (Fr_tr (Fr_tr Fr.rf (Fr_mono (fr_X4_fill eq4) (fun a j h => by unfold Wr_X4_fill at h; unfold Wr_X11_refreshNet; have := bookc kb2; have := bookc kb3; omega))) (Fr_mono (fr_X6_fill eq8) (fun a j h => by unfold Wr_X6_fill at h; unfold Wr_X11_refreshNet; have := bookc kb2; have := bookc kb3; have := bookc kb5; have := bookc kb6; have := bookc kb7; omega))) (by unfold Wr_X11_refreshNet; have := bookc kb2; have := bookc kb3; have := bookc kb5; have := bookc kb6; have := bookc kb7; omega))
  · have hF := (if_neg c1).symm.trans hF
    obtain rfl := Option.some.inj hF
    exact Fr.rf
def Wr_X11_days (a : Nat) (j : Int) : Prop := ((47 ≤ a ∧ a ≤ 50)) ∨ ((53 ≤ a ∧ a ≤ 54)) ∨ ((56 ≤ a ∧ a ≤ 57)) ∨ (a = 0 ∧ j = 16) ∨ (a = 52 ∧ j = 2) ∨ (a = 46 ∧ j = 5)
theorem fr_X11_days {N : Nat} {v1 : Int} {v2 : Int} {v3 : Int} {σ : Sto} {res : Int × Sto} (hF : F_X11_days N v1 v2 v3 σ = some res) : Fr (Wr_X11_days) σ res.2 := by
  unfold F_X11_days at hF
  obtain ⟨q1, eq1, hF⟩ := bind_some' hF
  by_cases c2 : q1 = 0
  · have hF := (if_pos c2).symm.trans hF
    obtain rfl := Option.some.inj hF
    exact Fr.rf
  · have hF := (if_neg c2).symm.trans hF
    by_cases c3 : v3 < 0
    · have hF := (if_pos c3).symm.trans hF
      obtain rfl := Option.some.inj hF
      exact Fr.rf
    · have hF := (if_neg c3).symm.trans hF
      by_cases c4 : v3 ≤ 2
      · have hF := (if_pos c4).symm.trans hF
        obtain ⟨q5, eq5, hF⟩ := bind_some' hF
        by_cases c6 : v3 = 0
        · have hF := (if_pos c6).symm.trans hF
          obtain ⟨q10, eq10, hF⟩ := bind_some' hF
          obtain rfl := Option.some.inj hF
          exact (Fr_tr Fr.rf (Fr_mono (fr_X11_refreshNet eq5) (fun a j h => by unfold Wr_X11_refreshNet at h; unfold Wr_X11_days; omega)))
        · have hF := (if_neg c6).symm.trans hF
          by_cases c7 : v3 = 1
          · have hF := (if_pos c7).symm.trans hF
            obtain ⟨q9, eq9, hF⟩ := bind_some' hF
            obtain rfl := Option.some.inj hF
            exact (Fr_tr Fr.rf (Fr_mono (fr_X11_refreshNet eq5) (fun a j h => by unfold Wr_X11_refreshNet at h; unfold Wr_X11_days; omega)))
          · have hF := (if_neg c7).symm.trans hF
            obtain ⟨q8, eq8, hF⟩ := bind_some' hF
            obtain rfl := Option.some.inj hF
            exact (Fr_tr Fr.rf (Fr_mono (fr_X11_refreshNet eq5) (fun a j h => by unfold Wr_X11_refreshNet at h; unfold Wr_X11_days; omega)))
      · have hF := (if_neg c4).symm.trans hF
        obtain rfl := Option.some.inj hF
        exact Fr.rf
def Wr_X11_steps (a : Nat) (j : Int) : Prop := ((47 ≤ a ∧ a ≤ 49)) ∨ (a = 51) ∨ (a = 46 ∧ j = 5)
theorem fr_X11_steps {N : Nat} {v1 : Int} {v2 : Int} {v3 : Int} {σ : Sto} {res : Int × Sto} (hF : F_X11_steps N v1 v2 v3 σ = some res) : Fr (Wr_X11_steps) σ res.2 := by
  unfold F_X11_steps at hF
  obtain ⟨q1, eq1, hF⟩ := bind_some' hF
  by_cases c2 : q1 = 0
  · have hF := (if_pos c2).symm.trans hF
    obtain rfl := Option.some.inj hF
    exact Fr.rf
  · have hF := (if_neg c2).symm.trans hF
    obtain ⟨q3, eq3, hF⟩ := bind_some' hF
    by_cases c4 : q3 = 0
    · have hF := (if_pos c4).symm.trans hF
      obtain rfl := Option.some.inj hF
      exact Fr.rf
    · have hF := (if_neg c4).symm.trans hF
      obtain ⟨b5, eb5, kb5, hF⟩ := asB_some hF
      obtain ⟨q6, eq6, hF⟩ := bind_some' hF
      obtain ⟨q7, eq7, hF⟩ := bind_some' hF
      obtain rfl := Option.some.inj hF
      exact (Fr_tr (Fr_tr Fr.rf (Fr_mono (fr_X10_load eq6) (fun a j h => by unfold Wr_X10_load at h; unfold Wr_X11_steps; have := bookc kb5; omega))) (Fr_mono (fr_X10_stepsBetween eq7) (fun a j h => by unfold Wr_X10_stepsBetween at h; unfold Wr_X11_steps; have := bookc kb5; omega)))
def Wr_X11_own (a : Nat) (j : Int) : Prop := ((12 ≤ a ∧ a ≤ 15)) ∨ ((25 ≤ a ∧ a ≤ 28)) ∨ (a = 34) ∨ ((47 ≤ a ∧ a ≤ 50)) ∨ ((53 ≤ a ∧ a ≤ 54)) ∨ ((56 ≤ a ∧ a ≤ 57)) ∨ (a = 33 ∧ j = 1) ∨ (a = 0 ∧ j = 16) ∨ (a = 0 ∧ j = 17) ∨ (a = 52 ∧ j = 2) ∨ (a = 11 ∧ j = 4) ∨ (a = 24 ∧ j = 4) ∨ (a = 46 ∧ j = 5)
theorem fr_X11_own {N : Nat} {v1 : Int} {v2 : Int} {v3 : Int} {v4 : Int} {σ : Sto} {res : Int × Sto} (hF : F_X11_own N v1 v2 v3 v4 σ = some res) : Fr (Wr_X11_own) σ res.2 := by
  unfold F_X11_own at hF
  obtain ⟨q1, eq1, hF⟩ := bind_some' hF
  by_cases c2 : q1 = 0
  · have hF := (if_pos c2).symm.trans hF
    obtain rfl := Option.some.inj hF
    exact Fr.rf
  · have hF := (if_neg c2).symm.trans hF
    by_cases c3 : v2 < v1
    · have hF := (if_pos c3).symm.trans hF
      obtain rfl := Option.some.inj hF
      exact Fr.rf
    · have hF := (if_neg c3).symm.trans hF
      obtain ⟨q4, eq4, hF⟩ := bind_some' hF
      by_cases c5 : q4 = 0
      · have hF := (if_pos c5).symm.trans hF
        obtain rfl := Option.some.inj hF
        exact Fr.rf
      · have hF := (if_neg c5).symm.trans hF
        by_cases c6 : v3 < 0
        · have hF := (if_pos c6).symm.trans hF
          obtain rfl := Option.some.inj hF
          exact Fr.rf
        · have hF := (if_neg c6).symm.trans hF
          by_cases c7 : v3 ≤ 100
          · have hF := (if_pos c7).symm.trans hF
            obtain ⟨b8, eb8, kb8, hF⟩ := asB_some hF
            by_cases c9 : (σ.1 (b8 + 8) 4) < 24
            · have hF := (if_pos c9).symm.trans hF
              obtain ⟨b10, eb10, kb10, hF⟩ := asB_some hF
              obtain ⟨q11, eq11, hF⟩ := bind_some' hF
              obtain ⟨q12, eq12, hF⟩ := bind_some' hF
              obtain ⟨q13, eq13, hF⟩ := bind_some' hF
              obtain ⟨q14, eq14, hF⟩ := bind_some' hF
              by_cases c15 : q14 = 0
              · have hF := (if_pos c15).symm.trans hF
                obtain ⟨q16, eq16, hF⟩ := bind_some' hF
                obtain ⟨b17, eb17, kb17, hF⟩ := asB_some hF
                obtain rfl := Option.some.inj hF
                exact (Fr_tr (Fr_tr (Fr_tr (Fr_tr Fr.rf (Fr_mono (fr_X7_add eq11) (fun a j h => by unfold Wr_X7_add at h; unfold Wr_X11_own; have := bookc kb8; have := bookc kb10; omega))) (Fr_mono (fr_X11_forgetNet eq12) (fun a j h => by unfold Wr_X11_forgetNet at h; unfold Wr_X11_own; have := bookc kb8; have := bookc kb10; omega))) (Fr_mono (fr_X11_refreshNet eq13) (fun a j h => by unfold Wr_X11_refreshNet at h; unfold Wr_X11_own; have := bookc kb8; have := bookc kb10; omega))) (Fr_mono (fr_X2_push eq16) (fun a j h => by unfold Wr_X2_push at h; unfold Wr_X11_own; have := bookc kb8; have := bookc kb10; omega)))
              · have hF := (if_neg c15).symm.trans hF
                obtain ⟨b18, eb18, kb18, hF⟩ := asB_some hF
                obtain ⟨q19, eq19, hF⟩ := bind_some' hF
                obtain ⟨q20, eq20, hF⟩ := bind_some' hF
                obtain rfl := Option.some.inj hF
                exact (Fr_tr (Fr_tr (Fr_tr (Fr_tr (Fr_tr Fr.rf (Fr_mono (fr_X7_add eq11) (fun a j h => by unfold Wr_X7_add at h; unfold Wr_X11_own; have := bookc kb8; have := bookc kb10; omega))) (Fr_mono (fr_X11_forgetNet eq12) (fun a j h => by unfold Wr_X11_forgetNet at h; unfold Wr_X11_own; have := bookc kb8; have := bookc kb10; omega))) (Fr_mono (fr_X11_refreshNet eq13) (fun a j h => by unfold Wr_X11_refreshNet at h; unfold Wr_X11_own; have := bookc kb8; have := bookc kb10; omega))) (Fr_mono (fr_X7_dropLast eq19) (fun a j h => by unfold Wr_X7_dropLast at h; unfold Wr_X11_own; have := bookc kb8; have := bookc kb10; have := bookc kb18; omega))) (Fr_mono (fr_X11_forgetNet eq20) (fun a j h => by unfold Wr_X11_forgetNet at h; unfold Wr_X11_own; have := bookc kb8; have := bookc kb10; have := bookc kb18; omega)))
            · have hF := (if_neg c9).symm.trans hF
              obtain rfl := Option.some.inj hF
              exact Fr.rf
          · have hF := (if_neg c7).symm.trans hF
            obtain rfl := Option.some.inj hF
            exact Fr.rf
def Wr_X11_shared (a : Nat) (j : Int) : Prop := ((47 ≤ a ∧ a ≤ 50)) ∨ ((53 ≤ a ∧ a ≤ 54)) ∨ ((56 ≤ a ∧ a ≤ 57)) ∨ (a = 0 ∧ j = 16) ∨ (a = 52 ∧ j = 2) ∨ (a = 46 ∧ j = 5)
theorem fr_X11_shared {N : Nat} {v1 : Int} {v2 : Int} {σ : Sto} {res : Int × Sto} (hF : F_X11_shared N v1 v2 σ = some res) : Fr (Wr_X11_shared) σ res.2 := by
  unfold F_X11_shared at hF
  obtain ⟨b1, eb1, kb1, hF⟩ := asB_some hF
  obtain ⟨q2, eq2, hF⟩ := bind_some' hF
  by_cases c3 : q2 = 0
  · have hF := (if_pos c3).symm.trans hF
    obtain rfl := Option.some.inj hF
    exact Fr.rf
  · have hF := (if_neg c3).symm.trans hF
    obtain ⟨b4, eb4, kb4, hF⟩ := asB_some hF
    obtain ⟨q5, eq5, hF⟩ := bind_some' hF
    by_cases c6 : q5 = 0
    · have hF := (if_pos c6).symm.trans hF
      obtain rfl := Option.some.inj hF
      exact Fr.rf
    · have hF := (if_neg c6).symm.trans hF
      obtain ⟨b7, eb7, kb7, hF⟩ := asB_some hF
      obtain ⟨b8, hF⟩ := inb_some hF
      obtain ⟨b9, eb9, kb9, hF⟩ := asB_some hF
      obtain ⟨b10, hF⟩ := inb_some hF
      by_cases c11 : (σ.1 (b7 + 4) v1) = (σ.1 (b9 + 4) v2)
      · have hF := (if_pos c11).symm.trans hF
        obtain rfl := Option.some.inj hF
        exact Fr.rf
      · have hF := (if_neg c11).symm.trans hF
        obtain ⟨q12, eq12, hF⟩ := bind_some' hF
        obtain ⟨b13, eb13, kb13, hF⟩ := asB_some hF
        obtain ⟨b14, eb14, kb14, hF⟩ := asB_some hF
        obtain ⟨b15, eb15, kb15, hF⟩ := asB_some hF
        obtain ⟨b16, eb16, kb16, hF⟩ := asB_some hF
        obtain ⟨b17, eb17, kb17, hF⟩ := asB_some hF
        obtain ⟨b18, eb18, kb18, hF⟩ := asB_some hF
        obtain ⟨q19, eq19, hF⟩ := bind_some' hF
        obtain rfl := Option.some.inj hF
        exact (Fr_tr Fr.rf (Fr_mono (fr_X11_refreshNet eq12) (fun a j h => by unfold Wr_X11_refreshNet at h; unfold Wr_X11_shared; have := bookc kb1; have := bookc kb4; have := bookc kb7; have := bookc kb9; omega)))
def Wr_X11_isLink (a : Nat) (j : Int) : Prop := ((47 ≤ a ∧ a ≤ 50)) ∨ ((53 ≤ a ∧ a ≤ 54)) ∨ ((56 ≤ a ∧ a ≤ 57)) ∨ (a = 0 ∧ j = 16) ∨ (a = 52 ∧ j = 2) ∨ (a = 46 ∧ j = 5)
theorem fr_X11_isLink {N : Nat} {v1 : Int} {v2 : Int} {σ : Sto} {res : Int × Sto} (hF : F_X11_isLink N v1 v2 σ = some res) : Fr (Wr_X11_isLink) σ res.2 := by
  unfold F_X11_isLink at hF
  obtain ⟨b1, eb1, kb1, hF⟩ := asB_some hF
  obtain ⟨q2, eq2, hF⟩ := bind_some' hF
  by_cases c3 : q2 = 0
  · have hF := (if_pos c3).symm.trans hF
    obtain rfl := Option.some.inj hF
    exact Fr.rf
  · have hF := (if_neg c3).symm.trans hF
    obtain ⟨b4, eb4, kb4, hF⟩ := asB_some hF
    obtain ⟨q5, eq5, hF⟩ := bind_some' hF
    by_cases c6 : q5 = 0
    · have hF := (if_pos c6).symm.trans hF
      obtain rfl := Option.some.inj hF
      exact Fr.rf
    · have hF := (if_neg c6).symm.trans hF
      obtain ⟨q7, eq7, hF⟩ := bind_some' hF
      obtain ⟨b8, hF⟩ := inb_some hF
      by_cases c9 : (q7.1 56 (ja (jm v1 12) v2)) < 0
      · have hF := (if_pos c9).symm.trans hF
        obtain rfl := Option.some.inj hF
        exact (Fr_tr Fr.rf (Fr_mono (fr_X11_refreshNet eq7) (fun a j h => by unfold Wr_X11_refreshNet at h; unfold Wr_X11_isLink; have := bookc kb1; have := bookc kb4; omega)))
      · have hF := (if_neg c9).symm.trans hF
        obtain rfl := Option.some.inj hF
        exact (Fr_tr Fr.rf (Fr_mono (fr_X11_refreshNet eq7) (fun a j h => by unfold Wr_X11_refreshNet at h; unfold Wr_X11_isLink; have := bookc kb1; have := bookc kb4; omega)))
def Wr_X11_bound (a : Nat) (j : Int) : Prop := ((47 ≤ a ∧ a ≤ 50)) ∨ ((53 ≤ a ∧ a ≤ 54)) ∨ ((56 ≤ a ∧ a ≤ 57)) ∨ (a = 0 ∧ j = 16) ∨ (a = 52 ∧ j = 2) ∨ (a = 46 ∧ j = 5)
theorem fr_X11_bound {N : Nat} {v1 : Int} {v2 : Int} {σ : Sto} {res : Int × Sto} (hF : F_X11_bound N v1 v2 σ = some res) : Fr (Wr_X11_bound) σ res.2 := by
  unfold F_X11_bound at hF
  obtain ⟨q1, eq1, hF⟩ := bind_some' hF
  by_cases c2 : q1.1 = 0
  · have hF := (if_pos c2).symm.trans hF
    obtain rfl := Option.some.inj hF
    exact (Fr_tr Fr.rf (Fr_mono (fr_X11_isLink eq1) (fun a j h => by unfold Wr_X11_isLink at h; unfold Wr_X11_bound; omega)))
  · have hF := (if_neg c2).symm.trans hF
    obtain ⟨b3, hF⟩ := inb_some hF
    obtain rfl := Option.some.inj hF
    exact (Fr_tr Fr.rf (Fr_mono (fr_X11_isLink eq1) (fun a j h => by unfold Wr_X11_isLink at h; unfold Wr_X11_bound; omega)))
def Wr_X11_room (a : Nat) (j : Int) : Prop := ((47 ≤ a ∧ a ≤ 50)) ∨ ((53 ≤ a ∧ a ≤ 54)) ∨ ((56 ≤ a ∧ a ≤ 57)) ∨ (a = 0 ∧ j = 16) ∨ (a = 52 ∧ j = 2) ∨ (a = 46 ∧ j = 5)
theorem fr_X11_room {N : Nat} {v1 : Int} {v2 : Int} {σ : Sto} {res : Int × Sto} (hF : F_X11_room N v1 v2 σ = some res) : Fr (Wr_X11_room) σ res.2 := by
  unfold F_X11_room at hF
  obtain ⟨q1, eq1, hF⟩ := bind_some' hF
  by_cases c2 : q1.1 = 0
  · have hF := (if_pos c2).symm.trans hF
    obtain rfl := Option.some.inj hF
    exact (Fr_tr Fr.rf (Fr_mono (fr_X11_isLink eq1) (fun a j h => by unfold Wr_X11_isLink at h; unfold Wr_X11_room; omega)))
  · have hF := (if_neg c2).symm.trans hF
    obtain ⟨b3, hF⟩ := inb_some hF
    obtain ⟨q4, eq4, hF⟩ := bind_some' hF
    obtain rfl := Option.some.inj hF
    exact (Fr_tr Fr.rf (Fr_mono (fr_X11_isLink eq1) (fun a j h => by unfold Wr_X11_isLink at h; unfold Wr_X11_room; omega)))
def Wr_X11_price (a : Nat) (j : Int) : Prop := ((47 ≤ a ∧ a ≤ 50)) ∨ ((53 ≤ a ∧ a ≤ 54)) ∨ ((56 ≤ a ∧ a ≤ 57)) ∨ (a = 0 ∧ j = 16) ∨ (a = 52 ∧ j = 2) ∨ (a = 46 ∧ j = 5)
theorem fr_X11_price {N : Nat} {v1 : Int} {v2 : Int} {σ : Sto} {res : Int × Sto} (hF : F_X11_price N v1 v2 σ = some res) : Fr (Wr_X11_price) σ res.2 := by
  unfold F_X11_price at hF
  obtain ⟨q1, eq1, hF⟩ := bind_some' hF
  by_cases c2 : q1.1 = 0
  · have hF := (if_pos c2).symm.trans hF
    obtain rfl := Option.some.inj hF
    exact (Fr_tr Fr.rf (Fr_mono (fr_X11_isLink eq1) (fun a j h => by unfold Wr_X11_isLink at h; unfold Wr_X11_price; omega)))
  · have hF := (if_neg c2).symm.trans hF
    obtain ⟨b3, hF⟩ := inb_some hF
    obtain rfl := Option.some.inj hF
    exact (Fr_tr Fr.rf (Fr_mono (fr_X11_isLink eq1) (fun a j h => by unfold Wr_X11_isLink at h; unfold Wr_X11_price; omega)))
def Wr_X11_enter (v1 : Nat) (a : Nat) (j : Int) : Prop := ((v1 + 1 ≤ a ∧ a ≤ v1 + 3)) ∨ (a = v1 ∧ j = 3) ∨ ((47 ≤ a ∧ a ≤ 50)) ∨ ((53 ≤ a ∧ a ≤ 54)) ∨ ((56 ≤ a ∧ a ≤ 57)) ∨ (a = 0 ∧ j = 16) ∨ (a = 52 ∧ j = 2) ∨ (a = 46 ∧ j = 5)
theorem fr_X11_enter {N : Nat} {v1 : Nat} {v2 : Int} {v3 : Int} {v4 : Int} {σ : Sto} {res : Int × Sto} (hF : F_X11_enter N v1 v2 v3 v4 σ = some res) : Fr (Wr_X11_enter v1) σ res.2 := by
  unfold F_X11_enter at hF
  by_cases c1 : v4 < 1
  · have hF := (if_pos c1).symm.trans hF
    obtain rfl := Option.some.inj hF
    exact Fr.rf
  · have hF := (if_neg c1).symm.trans hF
    by_cases c2 : 99999 < v4
    · have hF := (if_pos c2).symm.trans hF
      obtain rfl := Option.some.inj hF
      exact Fr.rf
    · have hF := (if_neg c2).symm.trans hF
      obtain ⟨q3, eq3, hF⟩ := bind_some' hF
      by_cases c4 : q3.1 = 0
      · have hF := (if_pos c4).symm.trans hF
        obtain rfl := Option.some.inj hF
        exact (Fr_tr Fr.rf (Fr_mono (fr_X11_isLink eq3) (fun a j h => by unfold Wr_X11_isLink at h; unfold Wr_X11_enter; omega)))
      · have hF := (if_neg c4).symm.trans hF
        by_cases c5 : (q3.2.1 v1 3) < 30
        · have hF := (if_pos c5).symm.trans hF
          obtain ⟨b6, hF⟩ := inb_some hF
          obtain ⟨q7, eq7, hF⟩ := bind_some' hF
          by_cases c8 : (js (q3.2.1 56 (ja (jm v2 12) v3)) q7) < v4
          · have hF := (if_pos c8).symm.trans hF
            obtain rfl := Option.some.inj hF
            exact (Fr_tr Fr.rf (Fr_mono (fr_X11_isLink eq3) (fun a j h => by unfold Wr_X11_isLink at h; unfold Wr_X11_enter; omega)))
          · have hF := (if_neg c8).symm.trans hF
            obtain ⟨q9, eq9, hF⟩ := bind_some' hF
            by_cases c10 : q9 < v4
            · have hF := (if_pos c10).symm.trans hF
              obtain rfl := Option.some.inj hF
              exact (Fr_tr Fr.rf (Fr_mono (fr_X11_isLink eq3) (fun a j h => by unfold Wr_X11_isLink at h; unfold Wr_X11_enter; omega)))
            · have hF := (if_neg c10).symm.trans hF
              obtain ⟨q11, eq11, hF⟩ := bind_some' hF
              by_cases c12 : v4 ≤ q11
              · have hF := (if_pos c12).symm.trans hF
                obtain ⟨q13, eq13, hF⟩ := bind_some' hF
                obtain rfl := Option.some.inj hF
                exact (Fr_tr (Fr_tr Fr.rf (Fr_mono (fr_X11_isLink eq3) (fun a j h => by unfold Wr_X11_isLink at h; unfold Wr_X11_enter; omega))) (Fr_mono (fr_X5_insert eq13) (fun a j h => by unfold Wr_X5_insert at h; unfold Wr_X11_enter; omega)))
              · have hF := (if_neg c12).symm.trans hF
                obtain rfl := Option.some.inj hF
                exact (Fr_tr Fr.rf (Fr_mono (fr_X11_isLink eq3) (fun a j h => by unfold Wr_X11_isLink at h; unfold Wr_X11_enter; omega)))
        · have hF := (if_neg c5).symm.trans hF
          obtain rfl := Option.some.inj hF
          exact (Fr_tr Fr.rf (Fr_mono (fr_X11_isLink eq3) (fun a j h => by unfold Wr_X11_isLink at h; unfold Wr_X11_enter; omega)))
def Wr_X11_claim (a : Nat) (j : Int) : Prop := ((30 ≤ a ∧ a ≤ 32)) ∨ (a = 34) ∨ ((47 ≤ a ∧ a ≤ 50)) ∨ ((53 ≤ a ∧ a ≤ 54)) ∨ ((56 ≤ a ∧ a ≤ 57)) ∨ (a = 33 ∧ j = 1) ∨ (a = 0 ∧ j = 16) ∨ (a = 0 ∧ j = 17) ∨ (a = 52 ∧ j = 2) ∨ (a = 29 ∧ j = 3) ∨ (a = 46 ∧ j = 5)
theorem fr_X11_claim {N : Nat} {v1 : Int} {v2 : Int} {v3 : Int} {σ : Sto} {res : Int × Sto} (hF : F_X11_claim N v1 v2 v3 σ = some res) : Fr (Wr_X11_claim) σ res.2 := by
  unfold F_X11_claim at hF
  obtain ⟨q1, eq1, hF⟩ := bind_some' hF
  by_cases c2 : q1.1 < 0
  · have hF := (if_pos c2).symm.trans hF
    obtain rfl := Option.some.inj hF
    exact (Fr_tr Fr.rf (Fr_mono (fr_X11_enter eq1) (fun a j h => by unfold Wr_X11_enter at h; unfold Wr_X11_claim; omega)))
  · have hF := (if_neg c2).symm.trans hF
    obtain ⟨q3, eq3, hF⟩ := bind_some' hF
    obtain rfl := Option.some.inj hF
    exact (Fr_up (Fr_tr (Fr_tr Fr.rf (Fr_mono (fr_X11_enter eq1) (fun a j h => by unfold Wr_X11_enter at h; unfold Wr_X11_claim; omega))) (Fr_mono (fr_X2_push eq3) (fun a j h => by unfold Wr_X2_push at h; unfold Wr_X11_claim; omega))) (by unfold Wr_X11_claim; omega))
def Wr_X11_withdraw (a : Nat) (j : Int) : Prop := ((30 ≤ a ∧ a ≤ 32)) ∨ (a = 34) ∨ (a = 33 ∧ j = 1) ∨ (a = 0 ∧ j = 17) ∨ (a = 29 ∧ j = 3)
theorem fr_X11_withdraw {N : Nat} {v1 : Int} {σ : Sto} {res : Int × Sto} (hF : F_X11_withdraw N v1 σ = some res) : Fr (Wr_X11_withdraw) σ res.2 := by
  unfold F_X11_withdraw at hF
  obtain ⟨q1, eq1, hF⟩ := bind_some' hF
  by_cases c2 : q1 = 0
  · have hF := (if_pos c2).symm.trans hF
    obtain rfl := Option.some.inj hF
    exact Fr.rf
  · have hF := (if_neg c2).symm.trans hF
    obtain ⟨b3, hF⟩ := inb_some hF
    obtain ⟨q4, eq4, hF⟩ := bind_some' hF
    obtain ⟨q5, eq5, hF⟩ := bind_some' hF
    obtain rfl := Option.some.inj hF
    exact (Fr_up (Fr_tr (Fr_tr Fr.rf (Fr_mono (fr_X2_push eq4) (fun a j h => by unfold Wr_X2_push at h; unfold Wr_X11_withdraw; omega))) (Fr_mono (fr_X5_remove eq5) (fun a j h => by unfold Wr_X5_remove at h; unfold Wr_X11_withdraw; omega))) (by unfold Wr_X11_withdraw; omega))
def Wr_X11_refreshFlow (a : Nat) (j : Int) : Prop := ((47 ≤ a ∧ a ≤ 50)) ∨ ((53 ≤ a ∧ a ≤ 54)) ∨ ((56 ≤ a ∧ a ≤ 57)) ∨ ((59 ≤ a ∧ a ≤ 67)) ∨ (a = 58 ∧ j = 10) ∨ (a = 58 ∧ j = 11) ∨ (a = 58 ∧ j = 12) ∨ (a = 58 ∧ j = 13) ∨ (a = 0 ∧ j = 16) ∨ (a = 0 ∧ j = 17) ∨ (a = 52 ∧ j = 2) ∨ (a = 46 ∧ j = 5) ∨ (a = 58 ∧ j = 9)
theorem fr_X11_refreshFlow {N : Nat}  {σ : Sto} {res : Sto} (hF : F_X11_refreshFlow N  σ = some res) : Fr (Wr_X11_refreshFlow) σ res := by
  unfold F_X11_refreshFlow at hF
  obtain ⟨q1, eq1, hF⟩ := bind_some' hF
  by_cases c2 : (q1.1 0 17) = 0
  · have hF := (if_pos c2).symm.trans hF
    obtain ⟨b3, eb3, kb3, hF⟩ := asB_some hF
    obtain ⟨q4, eq4, hF⟩ := bind_some' hF
    obtain ⟨q5, eq5, hF⟩ := bind_some' hF
    obtain rfl := Option.some.inj hF
    exact (Fr_up (Fr_tr (Fr_tr (Fr_tr Fr.rf (Fr_mono (fr_X11_refreshNet eq1) (fun a j h => by unfold Wr_X11_refreshNet at h; unfold Wr_X11_refreshFlow; omega))) (Fr_mono (fr_X1_load eq4) (fun a j h => by unfold Wr_X1_load at h; unfold Wr_X11_refreshFlow; have := bookc kb3; omega))) (Fr_mono (fr_X1_run eq5) (fun a j h => by unfold Wr_X1_run at h; unfold Wr_X11_refreshFlow; have := bookc kb3; omega))) (by unfold Wr_X11_refreshFlow; have := bookc kb3; omega))
  · have hF := (if_neg c2).symm.trans hF
    obtain rfl := Option.some.inj hF
    exact (Fr_tr Fr.rf (Fr_mono (fr_X11_refreshNet eq1) (fun a j h => by unfold Wr_X11_refreshNet at h; unfold Wr_X11_refreshFlow; omega)))
def Wr_X11_claimAll (a : Nat) (j : Int) : Prop := ((30 ≤ a ∧ a ≤ 32)) ∨ (a = 34) ∨ ((47 ≤ a ∧ a ≤ 50)) ∨ ((53 ≤ a ∧ a ≤ 54)) ∨ ((56 ≤ a ∧ a ≤ 57)) ∨ ((59 ≤ a ∧ a ≤ 67)) ∨ (a = 33 ∧ j = 1) ∨ (a = 58 ∧ j = 10) ∨ (a = 58 ∧ j = 11) ∨ (a = 58 ∧ j = 12) ∨ (a = 58 ∧ j = 13) ∨ (a = 0 ∧ j = 16) ∨ (a = 0 ∧ j = 17) ∨ (a = 52 ∧ j = 2) ∨ (a = 29 ∧ j = 3) ∨ (a = 46 ∧ j = 5) ∨ (a = 58 ∧ j = 9)
theorem fr_X11_claimAll_J98 {N : Nat}   {v1 : Int} {σ : Sto} {res : Int × Sto} (hF : F_X11_claimAll_J98 N  v1 σ = some res) : Fr (Wr_X11_claimAll) σ res.2 := by
  unfold F_X11_claimAll_J98 at hF
  by_cases c2 : v1 ≤ 0
  · have hF := (if_pos c2).symm.trans hF
    obtain rfl := Option.some.inj hF
    exact Fr.rf
  · have hF := (if_neg c2).symm.trans hF
    obtain ⟨q3, eq3, hF⟩ := bind_some' hF
    obtain rfl := Option.some.inj hF
    exact (Fr_up (Fr_tr Fr.rf (Fr_mono (fr_X2_push eq3) (fun a j h => by unfold Wr_X2_push at h; unfold Wr_X11_claimAll; omega))) (by unfold Wr_X11_claimAll; omega))
theorem fr_X11_claimAll_J92 {N : Nat}  {nx8 : (Int × Int × Sto) → Option (Int × Sto)} {v1 : Int} {v2 : Int} {σ : Sto} {res : Int × Sto} (hnx8 : ∀ q, nx8 q = some res → Fr (Wr_X11_claimAll) q.2.2 res.2) (hF : F_X11_claimAll_J92 N nx8 v1 v2 σ = some res) : Fr (Wr_X11_claimAll) σ res.2 := by
  unfold F_X11_claimAll_J92 at hF
  exact Fr_tr Fr.rf (hnx8 _ hF)
theorem fr_X11_claimAll_J86 {N : Nat}  {nx8 : (Int × Int × Sto) → Option (Int × Sto)} {nx21 : (Int × Int × Sto) → Option (Int × Sto)} {v1 : Int} {v2 : Int} {v3 : Int} {σ : Sto} {res : Int × Sto} (hnx8 : ∀ q, nx8 q = some res → Fr (Wr_X11_claimAll) q.2.2 res.2) (hnx21 : ∀ q, nx21 q = some res → Fr (Wr_X11_claimAll) q.2.2 res.2) (hF : F_X11_claimAll_J86 N nx8 nx21 v1 v2 v3 σ = some res) : Fr (Wr_X11_claimAll) σ res.2 := by
  unfold F_X11_claimAll_J86 at hF
  exact Fr_tr Fr.rf (hnx21 _ hF)
theorem fr_X11_claimAll_B21 {N : Nat}  {nx8 : (Int × Int × Sto) → Option (Int × Sto)} {nx21 : (Int × Int × Sto) → Option (Int × Sto)} {v2 : Int} {v1 : Int} {v3 : Int} {σ : Sto} {res : Int × Sto} (hnx8 : ∀ q, nx8 q = some res → Fr (Wr_X11_claimAll) q.2.2 res.2) (hnx21 : ∀ q, nx21 q = some res → Fr (Wr_X11_claimAll) q.2.2 res.2) (hF : F_X11_claimAll_B21 N nx8 nx21 v2 v1 v3 σ = some res) : Fr (Wr_X11_claimAll) σ res.2 := by
  unfold F_X11_claimAll_B21 at hF
  obtain ⟨b6, eb6, kb6, hF⟩ := asB_some hF
  by_cases c7 : (σ.1 b6 9) ≤ v3
  · have hF := (if_pos c7).symm.trans hF
    exact fr_X11_claimAll_J92 hnx8 hF
  · have hF := (if_neg c7).symm.trans hF
    obtain ⟨b8, hF⟩ := inb_some hF
    by_cases c9 : (σ.1 63 (ja (jm v2 12) v3)) ≤ 0
    · have hF := (if_pos c9).symm.trans hF
      exact fr_X11_claimAll_J86 hnx8 hnx21 hF
    · have hF := (if_neg c9).symm.trans hF
      by_cases c10 : 30 ≤ (σ.1 29 3)
      · have hF := (if_pos c10).symm.trans hF
        exact fr_X11_claimAll_J86 hnx8 hnx21 hF
      · have hF := (if_neg c10).symm.trans hF
        obtain ⟨q11, eq11, hF⟩ := bind_some' hF
        exact Fr_tr (Fr_tr Fr.rf (Fr_mono (fr_X5_insert eq11) (fun a j h => by unfold Wr_X5_insert at h; unfold Wr_X11_claimAll; have := bookc kb6; omega))) (fr_X11_claimAll_J86 hnx8 hnx21 hF)
theorem fr_X11_claimAll_B8 {N : Nat}  {nx8 : (Int × Int × Sto) → Option (Int × Sto)} {v1 : Int} {v2 : Int} {σ : Sto} {res : Int × Sto} (hnx8 : ∀ q, nx8 q = some res → Fr (Wr_X11_claimAll) q.2.2 res.2) (hF : F_X11_claimAll_B8 N nx8 v1 v2 σ = some res) : Fr (Wr_X11_claimAll) σ res.2 := by
  unfold F_X11_claimAll_B8 at hF
  obtain ⟨b4, eb4, kb4, hF⟩ := asB_some hF
  by_cases c5 : (σ.1 b4 9) ≤ v2
  · have hF := (if_pos c5).symm.trans hF
    exact fr_X11_claimAll_J98  hF
  · have hF := (if_neg c5).symm.trans hF
    exact (loopK_ind (res := res) (P := fun (q : Int × Int × Sto) => Fr (Wr_X11_claimAll) q.2.2 res.2) (fun nx q hn hF => fr_X11_claimAll_B21 hnx8 hn hF) N _ hF)
theorem fr_X11_claimAll {N : Nat}  {σ : Sto} {res : Int × Sto} (hF : F_X11_claimAll N  σ = some res) : Fr (Wr_X11_claimAll) σ res.2 := by
  unfold F_X11_claimAll at hF
  obtain ⟨q1, eq1, hF⟩ := bind_some' hF
  exact Fr_tr (Fr_tr Fr.rf (Fr_mono (fr_X11_refreshFlow eq1) (fun a j h => by unfold Wr_X11_refreshFlow at h; unfold Wr_X11_claimAll; omega))) (loopK_ind (res := res) (P := fun (q : Int × Int × Sto) => Fr (Wr_X11_claimAll) q.2.2 res.2) (fun nx q hn hF => fr_X11_claimAll_B8 hn hF) N _ hF)
def Wr_X11_result (a : Nat) (j : Int) : Prop := (a = 10) ∨ (a = 23) ∨ (a = 34) ∨ (a = 33 ∧ j = 1) ∨ (a = 0 ∧ j = 16) ∨ (a = 0 ∧ j = 17)
theorem fr_X11_result {N : Nat} {v1 : Int} {v2 : Int} {σ : Sto} {res : Int × Sto} (hF : F_X11_result N v1 v2 σ = some res) : Fr (Wr_X11_result) σ res.2 := by
  unfold F_X11_result at hF
  obtain ⟨b1, eb1, kb1, hF⟩ := asB_some hF
  obtain ⟨q2, eq2, hF⟩ := bind_some' hF
  by_cases c3 : q2 = 0
  · have hF := (if_pos c3).symm.trans hF
    obtain rfl := Option.some.inj hF
    exact Fr.rf
  · have hF := (if_neg c3).symm.trans hF
    by_cases c4 : v2 < (-99999)
    · have hF := (if_pos c4).symm.trans hF
      obtain rfl := Option.some.inj hF
      exact Fr.rf
    · have hF := (if_neg c4).symm.trans hF
      by_cases c5 : 99999 < v2
      · have hF := (if_pos c5).symm.trans hF
        obtain rfl := Option.some.inj hF
        exact Fr.rf
      · have hF := (if_neg c5).symm.trans hF
        obtain ⟨q6, eq6, hF⟩ := bind_some' hF
        by_cases c7 : q6 = 0
        · have hF := (if_pos c7).symm.trans hF
          obtain ⟨b8, eb8, kb8, hF⟩ := asB_some hF
          obtain ⟨b9, hF⟩ := inb_some hF
          obtain ⟨q10, eq10, hF⟩ := bind_some' hF
          obtain ⟨b11, eb11, kb11, hF⟩ := asB_some hF
          obtain ⟨q12, eq12, hF⟩ := bind_some' hF
          obtain rfl := Option.some.inj hF
          exact (Fr_tr (Fr_up (Fr_tr Fr.rf (Fr_mono (fr_X2_push eq10) (fun a j h => by unfold Wr_X2_push at h; unfold Wr_X11_result; have := bookc kb1; have := bookc kb8; omega))) (by unfold Wr_X11_result; have := bookc kb1; have := bookc kb8; have := bookc kb11; omega)) (Fr_mono (fr_X11_forgetNet eq12) (fun a j h => by unfold Wr_X11_forgetNet at h; unfold Wr_X11_result; have := bookc kb1; have := bookc kb8; have := bookc kb11; omega)))
        · have hF := (if_neg c7).symm.trans hF
          obtain rfl := Option.some.inj hF
          exact Fr.rf
def Wr_X11_relief (a : Nat) (j : Int) : Prop := ((47 ≤ a ∧ a ≤ 50)) ∨ ((53 ≤ a ∧ a ≤ 54)) ∨ ((56 ≤ a ∧ a ≤ 57)) ∨ ((59 ≤ a ∧ a ≤ 67)) ∨ (a = 58 ∧ j = 10) ∨ (a = 58 ∧ j = 11) ∨ (a = 58 ∧ j = 12) ∨ (a = 58 ∧ j = 13) ∨ (a = 0 ∧ j = 16) ∨ (a = 0 ∧ j = 17) ∨ (a = 52 ∧ j = 2) ∨ (a = 46 ∧ j = 5) ∨ (a = 58 ∧ j = 9)
theorem fr_X11_relief {N : Nat} {v1 : Int} {v2 : Int} {σ : Sto} {res : Int × Sto} (hF : F_X11_relief N v1 v2 σ = some res) : Fr (Wr_X11_relief) σ res.2 := by
  unfold F_X11_relief at hF
  obtain ⟨q1, eq1, hF⟩ := bind_some' hF
  by_cases c2 : q1.1 = 0
  · have hF := (if_pos c2).symm.trans hF
    obtain rfl := Option.some.inj hF
    exact (Fr_tr Fr.rf (Fr_mono (fr_X11_isLink eq1) (fun a j h => by unfold Wr_X11_isLink at h; unfold Wr_X11_relief; omega)))
  · have hF := (if_neg c2).symm.trans hF
    obtain ⟨q3, eq3, hF⟩ := bind_some' hF
    obtain ⟨b4, hF⟩ := inb_some hF
    obtain rfl := Option.some.inj hF
    exact (Fr_tr (Fr_tr Fr.rf (Fr_mono (fr_X11_isLink eq1) (fun a j h => by unfold Wr_X11_isLink at h; unfold Wr_X11_relief; omega))) (Fr_mono (fr_X11_refreshFlow eq3) (fun a j h => by unfold Wr_X11_refreshFlow at h; unfold Wr_X11_relief; omega)))
def Wr_X11_solved (a : Nat) (j : Int) : Prop := ((47 ≤ a ∧ a ≤ 50)) ∨ ((53 ≤ a ∧ a ≤ 54)) ∨ ((56 ≤ a ∧ a ≤ 57)) ∨ ((59 ≤ a ∧ a ≤ 67)) ∨ (a = 58 ∧ j = 10) ∨ (a = 58 ∧ j = 11) ∨ (a = 58 ∧ j = 12) ∨ (a = 58 ∧ j = 13) ∨ (a = 0 ∧ j = 16) ∨ (a = 0 ∧ j = 17) ∨ (a = 52 ∧ j = 2) ∨ (a = 46 ∧ j = 5) ∨ (a = 58 ∧ j = 9)
theorem fr_X11_solved {N : Nat} {v1 : Int} {σ : Sto} {res : Int × Sto} (hF : F_X11_solved N v1 σ = some res) : Fr (Wr_X11_solved) σ res.2 := by
  unfold F_X11_solved at hF
  by_cases c1 : v1 < 0
  · have hF := (if_pos c1).symm.trans hF
    obtain rfl := Option.some.inj hF
    exact Fr.rf
  · have hF := (if_neg c1).symm.trans hF
    by_cases c2 : v1 ≤ 3
    · have hF := (if_pos c2).symm.trans hF
      obtain ⟨q3, eq3, hF⟩ := bind_some' hF
      by_cases c4 : v1 = 0
      · have hF := (if_pos c4).symm.trans hF
        obtain rfl := Option.some.inj hF
        exact (Fr_tr Fr.rf (Fr_mono (fr_X11_refreshFlow eq3) (fun a j h => by unfold Wr_X11_refreshFlow at h; unfold Wr_X11_solved; omega)))
      · have hF := (if_neg c4).symm.trans hF
        by_cases c5 : v1 = 1
        · have hF := (if_pos c5).symm.trans hF
          obtain ⟨q6, eq6, hF⟩ := bind_some' hF
          obtain rfl := Option.some.inj hF
          exact (Fr_tr Fr.rf (Fr_mono (fr_X11_refreshFlow eq3) (fun a j h => by unfold Wr_X11_refreshFlow at h; unfold Wr_X11_solved; omega)))
        · have hF := (if_neg c5).symm.trans hF
          by_cases c7 : v1 = 2
          · have hF := (if_pos c7).symm.trans hF
            obtain rfl := Option.some.inj hF
            exact (Fr_tr Fr.rf (Fr_mono (fr_X11_refreshFlow eq3) (fun a j h => by unfold Wr_X11_refreshFlow at h; unfold Wr_X11_solved; omega)))
          · have hF := (if_neg c7).symm.trans hF
            obtain ⟨q8, eq8, hF⟩ := bind_some' hF
            obtain rfl := Option.some.inj hF
            exact (Fr_tr Fr.rf (Fr_mono (fr_X11_refreshFlow eq3) (fun a j h => by unfold Wr_X11_refreshFlow at h; unfold Wr_X11_solved; omega)))
    · have hF := (if_neg c2).symm.trans hF
      obtain rfl := Option.some.inj hF
      exact Fr.rf
def Wr_X11_reached (a : Nat) (j : Int) : Prop := ((47 ≤ a ∧ a ≤ 50)) ∨ ((53 ≤ a ∧ a ≤ 54)) ∨ ((56 ≤ a ∧ a ≤ 57)) ∨ ((59 ≤ a ∧ a ≤ 67)) ∨ (a = 58 ∧ j = 10) ∨ (a = 58 ∧ j = 11) ∨ (a = 58 ∧ j = 12) ∨ (a = 58 ∧ j = 13) ∨ (a = 0 ∧ j = 16) ∨ (a = 0 ∧ j = 17) ∨ (a = 52 ∧ j = 2) ∨ (a = 46 ∧ j = 5) ∨ (a = 58 ∧ j = 9)
theorem fr_X11_reached {N : Nat}  {σ : Sto} {res : Int × Sto} (hF : F_X11_reached N  σ = some res) : Fr (Wr_X11_reached) σ res.2 := by
  unfold F_X11_reached at hF
  obtain ⟨q1, eq1, hF⟩ := bind_some' hF
  obtain ⟨q2, eq2, hF⟩ := bind_some' hF
  obtain rfl := Option.some.inj hF
  exact (Fr_tr Fr.rf (Fr_mono (fr_X11_refreshFlow eq1) (fun a j h => by unfold Wr_X11_refreshFlow at h; unfold Wr_X11_reached; omega)))
def Wr_X11_left (a : Nat) (j : Int) : Prop := ((47 ≤ a ∧ a ≤ 50)) ∨ ((53 ≤ a ∧ a ≤ 54)) ∨ ((56 ≤ a ∧ a ≤ 57)) ∨ ((59 ≤ a ∧ a ≤ 67)) ∨ (a = 58 ∧ j = 10) ∨ (a = 58 ∧ j = 11) ∨ (a = 58 ∧ j = 12) ∨ (a = 58 ∧ j = 13) ∨ (a = 0 ∧ j = 16) ∨ (a = 0 ∧ j = 17) ∨ (a = 52 ∧ j = 2) ∨ (a = 46 ∧ j = 5) ∨ (a = 58 ∧ j = 9)
theorem fr_X11_left {N : Nat} {v1 : Int} {σ : Sto} {res : Int × Sto} (hF : F_X11_left N v1 σ = some res) : Fr (Wr_X11_left) σ res.2 := by
  unfold F_X11_left at hF
  obtain ⟨b1, eb1, kb1, hF⟩ := asB_some hF
  obtain ⟨q2, eq2, hF⟩ := bind_some' hF
  by_cases c3 : q2 = 0
  · have hF := (if_pos c3).symm.trans hF
    obtain rfl := Option.some.inj hF
    exact Fr.rf
  · have hF := (if_neg c3).symm.trans hF
    obtain ⟨q4, eq4, hF⟩ := bind_some' hF
    obtain ⟨b5, hF⟩ := inb_some hF
    obtain rfl := Option.some.inj hF
    exact (Fr_tr Fr.rf (Fr_mono (fr_X11_refreshFlow eq4) (fun a j h => by unfold Wr_X11_refreshFlow at h; unfold Wr_X11_left; have := bookc kb1; omega)))
def Wr_X11_route (a : Nat) (j : Int) : Prop := ((47 ≤ a ∧ a ≤ 50)) ∨ ((53 ≤ a ∧ a ≤ 54)) ∨ ((56 ≤ a ∧ a ≤ 57)) ∨ ((59 ≤ a ∧ a ≤ 67)) ∨ (a = 58 ∧ j = 10) ∨ (a = 58 ∧ j = 11) ∨ (a = 58 ∧ j = 12) ∨ (a = 58 ∧ j = 13) ∨ (a = 0 ∧ j = 16) ∨ (a = 0 ∧ j = 17) ∨ (a = 52 ∧ j = 2) ∨ (a = 46 ∧ j = 5) ∨ (a = 58 ∧ j = 9)
theorem fr_X11_route {N : Nat} {v1 : Int} {σ : Sto} {res : Int × Sto} (hF : F_X11_route N v1 σ = some res) : Fr (Wr_X11_route) σ res.2 := by
  unfold F_X11_route at hF
  by_cases c1 : 0 ≤ v1
  · have hF := (if_pos c1).symm.trans hF
    obtain ⟨q2, eq2, hF⟩ := bind_some' hF
    by_cases c3 : (q2.1 58 10) ≤ v1
    · have hF := (if_pos c3).symm.trans hF
      obtain rfl := Option.some.inj hF
      exact (Fr_tr Fr.rf (Fr_mono (fr_X11_refreshFlow eq2) (fun a j h => by unfold Wr_X11_refreshFlow at h; unfold Wr_X11_route; omega)))
    · have hF := (if_neg c3).symm.trans hF
      obtain ⟨b4, hF⟩ := inb_some hF
      obtain rfl := Option.some.inj hF
      exact (Fr_tr Fr.rf (Fr_mono (fr_X11_refreshFlow eq2) (fun a j h => by unfold Wr_X11_refreshFlow at h; unfold Wr_X11_route; omega)))
  · have hF := (if_neg c1).symm.trans hF
    obtain rfl := Option.some.inj hF
    exact Fr.rf
def Wr_X11_dearest (a : Nat) (j : Int) : Prop := ((47 ≤ a ∧ a ≤ 50)) ∨ ((53 ≤ a ∧ a ≤ 54)) ∨ ((56 ≤ a ∧ a ≤ 57)) ∨ ((59 ≤ a ∧ a ≤ 67)) ∨ (a = 58 ∧ j = 10) ∨ (a = 58 ∧ j = 11) ∨ (a = 58 ∧ j = 12) ∨ (a = 58 ∧ j = 13) ∨ (a = 0 ∧ j = 16) ∨ (a = 0 ∧ j = 17) ∨ (a = 52 ∧ j = 2) ∨ (a = 46 ∧ j = 5) ∨ (a = 58 ∧ j = 9)
theorem fr_X11_dearest_J98 {N : Nat}  {nx11 : (Int × Int × Int) → Option (Int × Sto)} {v1 : Int} {v2 : Int} {v3 : Int} {σ : Sto} {res : Int × Sto} (hnx11 : ∀ q, nx11 q = some res → Fr (Wr_X11_dearest) σ res.2) (hF : F_X11_dearest_J98 N nx11 v1 v2 v3 σ = some res) : Fr (Wr_X11_dearest) σ res.2 := by
  unfold F_X11_dearest_J98 at hF
  exact hnx11 _ hF
theorem fr_X11_dearest_J92 {N : Nat}  {nx11 : (Int × Int × Int) → Option (Int × Sto)} {nx25 : (Int × Int × Int) → Option (Int × Sto)} {v1 : Int} {v2 : Int} {v3 : Int} {v4 : Int} {σ : Sto} {res : Int × Sto} (hnx11 : ∀ q, nx11 q = some res → Fr (Wr_X11_dearest) σ res.2) (hnx25 : ∀ q, nx25 q = some res → Fr (Wr_X11_dearest) σ res.2) (hF : F_X11_dearest_J92 N nx11 nx25 v1 v2 v3 v4 σ = some res) : Fr (Wr_X11_dearest) σ res.2 := by
  unfold F_X11_dearest_J92 at hF
  exact hnx25 _ hF
theorem fr_X11_dearest_B25 {N : Nat}  {nx11 : (Int × Int × Int) → Option (Int × Sto)} {nx25 : (Int × Int × Int) → Option (Int × Sto)} {v3 : Int} {v1 : Int} {v2 : Int} {v4 : Int} {σ : Sto} {res : Int × Sto} (hnx11 : ∀ q, nx11 q = some res → Fr (Wr_X11_dearest) σ res.2) (hnx25 : ∀ q, nx25 q = some res → Fr (Wr_X11_dearest) σ res.2) (hF : F_X11_dearest_B25 N nx11 nx25 v3 v1 v2 v4 σ = some res) : Fr (Wr_X11_dearest) σ res.2 := by
  unfold F_X11_dearest_B25 at hF
  obtain ⟨b4, eb4, kb4, hF⟩ := asB_some hF
  by_cases c5 : (σ.1 b4 9) ≤ v4
  · have hF := (if_pos c5).symm.trans hF
    exact fr_X11_dearest_J98 hnx11 hF
  · have hF := (if_neg c5).symm.trans hF
    obtain ⟨b6, hF⟩ := inb_some hF
    by_cases c7 : (σ.1 63 (ja (jm v3 12) v4)) ≤ 0
    · have hF := (if_pos c7).symm.trans hF
      exact fr_X11_dearest_J92 hnx11 hnx25 hF
    · have hF := (if_neg c7).symm.trans hF
      by_cases c8 : (σ.1 57 (ja (jm v3 12) v4)) ≤ v2
      · have hF := (if_pos c8).symm.trans hF
        exact fr_X11_dearest_J92 hnx11 hnx25 hF
      · have hF := (if_neg c8).symm.trans hF
        exact fr_X11_dearest_J92 hnx11 hnx25 hF
theorem fr_X11_dearest_B11 {N : Nat}  {nx11 : (Int × Int × Int) → Option (Int × Sto)} {v1 : Int} {v2 : Int} {v3 : Int} {σ : Sto} {res : Int × Sto} (hnx11 : ∀ q, nx11 q = some res → Fr (Wr_X11_dearest) σ res.2) (hF : F_X11_dearest_B11 N nx11 v1 v2 v3 σ = some res) : Fr (Wr_X11_dearest) σ res.2 := by
  unfold F_X11_dearest_B11 at hF
  obtain ⟨b2, eb2, kb2, hF⟩ := asB_some hF
  by_cases c3 : (σ.1 b2 9) ≤ v3
  · have hF := (if_pos c3).symm.trans hF
    obtain rfl := Option.some.inj hF
    exact Fr.rf
  · have hF := (if_neg c3).symm.trans hF
    exact (loopK_ind (res := res) (P := fun (q : Int × Int × Int) => Fr (Wr_X11_dearest) σ res.2) (fun nx q hn hF => fr_X11_dearest_B25 hnx11 hn hF) N _ hF)
theorem fr_X11_dearest {N : Nat}  {σ : Sto} {res : Int × Sto} (hF : F_X11_dearest N  σ = some res) : Fr (Wr_X11_dearest) σ res.2 := by
  unfold F_X11_dearest at hF
  obtain ⟨q1, eq1, hF⟩ := bind_some' hF
  exact Fr_tr (Fr_tr Fr.rf (Fr_mono (fr_X11_refreshFlow eq1) (fun a j h => by unfold Wr_X11_refreshFlow at h; unfold Wr_X11_dearest; omega))) (loopK_ind (res := res) (P := fun (q : Int × Int × Int) => Fr (Wr_X11_dearest) q1 res.2) (fun nx q hn hF => fr_X11_dearest_B11 hn hF) N _ hF)
def Wr_X11_carried (a : Nat) (j : Int) : Prop := ((47 ≤ a ∧ a ≤ 50)) ∨ ((53 ≤ a ∧ a ≤ 54)) ∨ ((56 ≤ a ∧ a ≤ 57)) ∨ ((59 ≤ a ∧ a ≤ 67)) ∨ (a = 58 ∧ j = 10) ∨ (a = 58 ∧ j = 11) ∨ (a = 58 ∧ j = 12) ∨ (a = 58 ∧ j = 13) ∨ (a = 0 ∧ j = 16) ∨ (a = 0 ∧ j = 17) ∨ (a = 52 ∧ j = 2) ∨ (a = 46 ∧ j = 5) ∨ (a = 58 ∧ j = 9)
theorem fr_X11_carried_J22 {N : Nat}   {v1 : Int} {t0 : Int} {σ : Sto} {res : Int × Sto} (hF : F_X11_carried_J22 N  v1 t0 σ = some res) : Fr (Wr_X11_carried) σ res.2 := by
  unfold F_X11_carried_J22 at hF
  by_cases c3 : v1 < 2
  · have hF := (if_pos c3).symm.trans hF
    obtain ⟨q4, eq4, hF⟩ := bind_some' hF
    obtain ⟨q5, eq5, hF⟩ := bind_some' hF
    obtain rfl := Option.some.inj hF
    exact (Fr_tr Fr.rf (Fr_mono (fr_X11_refreshFlow eq4) (fun a j h => by unfold Wr_X11_refreshFlow at h; unfold Wr_X11_carried; omega)))
  · have hF := (if_neg c3).symm.trans hF
    obtain ⟨q6, eq6, hF⟩ := bind_some' hF
    obtain rfl := Option.some.inj hF
    exact Fr.rf
theorem fr_X11_carried {N : Nat} {v1 : Int} {σ : Sto} {res : Int × Sto} (hF : F_X11_carried N v1 σ = some res) : Fr (Wr_X11_carried) σ res.2 := by
  unfold F_X11_carried at hF
  by_cases c1 : v1 < 0
  · have hF := (if_pos c1).symm.trans hF
    obtain rfl := Option.some.inj hF
    exact Fr.rf
  · have hF := (if_neg c1).symm.trans hF
    by_cases c2 : v1 ≤ 3
    · have hF := (if_pos c2).symm.trans hF
      by_cases c7 : (jand v1 1) = 0
      · have hF := (if_pos c7).symm.trans hF
        exact fr_X11_carried_J22  hF
      · have hF := (if_neg c7).symm.trans hF
        exact fr_X11_carried_J22  hF
    · have hF := (if_neg c2).symm.trans hF
      obtain rfl := Option.some.inj hF
      exact Fr.rf
def Wr_X11_pays (a : Nat) (j : Int) : Prop := ((47 ≤ a ∧ a ≤ 50)) ∨ ((53 ≤ a ∧ a ≤ 54)) ∨ ((56 ≤ a ∧ a ≤ 57)) ∨ ((59 ≤ a ∧ a ≤ 67)) ∨ (a = 58 ∧ j = 10) ∨ (a = 58 ∧ j = 11) ∨ (a = 58 ∧ j = 12) ∨ (a = 58 ∧ j = 13) ∨ (a = 0 ∧ j = 16) ∨ (a = 0 ∧ j = 17) ∨ (a = 52 ∧ j = 2) ∨ (a = 46 ∧ j = 5) ∨ (a = 58 ∧ j = 9)
theorem fr_X11_pays {N : Nat} {v1 : Int} {v2 : Int} {σ : Sto} {res : Int × Sto} (hF : F_X11_pays N v1 v2 σ = some res) : Fr (Wr_X11_pays) σ res.2 := by
  unfold F_X11_pays at hF
  obtain ⟨b1, eb1, kb1, hF⟩ := asB_some hF
  obtain ⟨q2, eq2, hF⟩ := bind_some' hF
  by_cases c3 : q2 = 0
  · have hF := (if_pos c3).symm.trans hF
    obtain rfl := Option.some.inj hF
    exact Fr.rf
  · have hF := (if_neg c3).symm.trans hF
    obtain ⟨q4, eq4, hF⟩ := bind_some' hF
    by_cases c5 : v2 = 0
    · have hF := (if_pos c5).symm.trans hF
      obtain ⟨q6, eq6, hF⟩ := bind_some' hF
      obtain rfl := Option.some.inj hF
      exact (Fr_tr Fr.rf (Fr_mono (fr_X11_refreshFlow eq4) (fun a j h => by unfold Wr_X11_refreshFlow at h; unfold Wr_X11_pays; have := bookc kb1; omega)))
    · have hF := (if_neg c5).symm.trans hF
      by_cases c7 : v2 = 1
      · have hF := (if_pos c7).symm.trans hF
        obtain ⟨q8, eq8, hF⟩ := bind_some' hF
        obtain rfl := Option.some.inj hF
        exact (Fr_tr Fr.rf (Fr_mono (fr_X11_refreshFlow eq4) (fun a j h => by unfold Wr_X11_refreshFlow at h; unfold Wr_X11_pays; have := bookc kb1; omega)))
      · have hF := (if_neg c7).symm.trans hF
        by_cases c9 : v2 = 2
        · have hF := (if_pos c9).symm.trans hF
          obtain ⟨q10, eq10, hF⟩ := bind_some' hF
          obtain rfl := Option.some.inj hF
          exact (Fr_tr Fr.rf (Fr_mono (fr_X11_refreshFlow eq4) (fun a j h => by unfold Wr_X11_refreshFlow at h; unfold Wr_X11_pays; have := bookc kb1; omega)))
        · have hF := (if_neg c9).symm.trans hF
          by_cases c11 : v2 = 3
          · have hF := (if_pos c11).symm.trans hF
            obtain ⟨q12, eq12, hF⟩ := bind_some' hF
            obtain rfl := Option.some.inj hF
            exact (Fr_tr Fr.rf (Fr_mono (fr_X11_refreshFlow eq4) (fun a j h => by unfold Wr_X11_refreshFlow at h; unfold Wr_X11_pays; have := bookc kb1; omega)))
          · have hF := (if_neg c11).symm.trans hF
            obtain rfl := Option.some.inj hF
            exact (Fr_tr Fr.rf (Fr_mono (fr_X11_refreshFlow eq4) (fun a j h => by unfold Wr_X11_refreshFlow at h; unfold Wr_X11_pays; have := bookc kb1; omega)))
def Wr_X11_balance (a : Nat) (j : Int) : Prop := ((47 ≤ a ∧ a ≤ 50)) ∨ ((53 ≤ a ∧ a ≤ 54)) ∨ ((56 ≤ a ∧ a ≤ 57)) ∨ ((59 ≤ a ∧ a ≤ 67)) ∨ (a = 58 ∧ j = 10) ∨ (a = 58 ∧ j = 11) ∨ (a = 58 ∧ j = 12) ∨ (a = 58 ∧ j = 13) ∨ (a = 0 ∧ j = 16) ∨ (a = 0 ∧ j = 17) ∨ (a = 52 ∧ j = 2) ∨ (a = 46 ∧ j = 5) ∨ (a = 58 ∧ j = 9)
theorem fr_X11_balance {N : Nat} {v1 : Int} {σ : Sto} {res : Int × Sto} (hF : F_X11_balance N v1 σ = some res) : Fr (Wr_X11_balance) σ res.2 := by
  unfold F_X11_balance at hF
  obtain ⟨b1, eb1, kb1, hF⟩ := asB_some hF
  obtain ⟨q2, eq2, hF⟩ := bind_some' hF
  by_cases c3 : q2 = 0
  · have hF := (if_pos c3).symm.trans hF
    obtain rfl := Option.some.inj hF
    exact Fr.rf
  · have hF := (if_neg c3).symm.trans hF
    obtain ⟨q4, eq4, hF⟩ := bind_some' hF
    obtain ⟨q5, eq5, hF⟩ := bind_some' hF
    obtain ⟨q6, eq6, hF⟩ := bind_some' hF
    obtain rfl := Option.some.inj hF
    exact (Fr_tr Fr.rf (Fr_mono (fr_X11_refreshFlow eq4) (fun a j h => by unfold Wr_X11_refreshFlow at h; unfold Wr_X11_balance; have := bookc kb1; omega)))
def Wr_X11_owes (a : Nat) (j : Int) : Prop := ((47 ≤ a ∧ a ≤ 50)) ∨ ((53 ≤ a ∧ a ≤ 54)) ∨ ((56 ≤ a ∧ a ≤ 57)) ∨ ((59 ≤ a ∧ a ≤ 67)) ∨ (a = 58 ∧ j = 10) ∨ (a = 58 ∧ j = 11) ∨ (a = 58 ∧ j = 12) ∨ (a = 58 ∧ j = 13) ∨ (a = 0 ∧ j = 16) ∨ (a = 0 ∧ j = 17) ∨ (a = 52 ∧ j = 2) ∨ (a = 46 ∧ j = 5) ∨ (a = 58 ∧ j = 9)
theorem fr_X11_owes {N : Nat} {v1 : Int} {v2 : Int} {σ : Sto} {res : Int × Sto} (hF : F_X11_owes N v1 v2 σ = some res) : Fr (Wr_X11_owes) σ res.2 := by
  unfold F_X11_owes at hF
  obtain ⟨q1, eq1, hF⟩ := bind_some' hF
  by_cases c2 : q1 = 0
  · have hF := (if_pos c2).symm.trans hF
    obtain rfl := Option.some.inj hF
    exact Fr.rf
  · have hF := (if_neg c2).symm.trans hF
    obtain ⟨q3, eq3, hF⟩ := bind_some' hF
    obtain ⟨q4, eq4, hF⟩ := bind_some' hF
    obtain ⟨q5, eq5, hF⟩ := bind_some' hF
    obtain rfl := Option.some.inj hF
    exact (Fr_tr Fr.rf (Fr_mono (fr_X11_refreshFlow eq3) (fun a j h => by unfold Wr_X11_refreshFlow at h; unfold Wr_X11_owes; omega)))
def Wr_X11_settle (a : Nat) (j : Int) : Prop := ((47 ≤ a ∧ a ≤ 50)) ∨ ((53 ≤ a ∧ a ≤ 54)) ∨ ((56 ≤ a ∧ a ≤ 57)) ∨ ((59 ≤ a ∧ a ≤ 67)) ∨ ((69 ≤ a ∧ a ≤ 72)) ∨ (a = 58 ∧ j = 10) ∨ (a = 58 ∧ j = 11) ∨ (a = 58 ∧ j = 12) ∨ (a = 58 ∧ j = 13) ∨ (a = 0 ∧ j = 16) ∨ (a = 0 ∧ j = 17) ∨ (a = 52 ∧ j = 2) ∨ (a = 68 ∧ j = 4) ∨ (a = 46 ∧ j = 5) ∨ (a = 58 ∧ j = 9)
theorem fr_X11_settle_J45 {N : Nat}    {σ : Sto} {res : Sto} (hF : F_X11_settle_J45 N   σ = some res) : Fr (Wr_X11_settle) σ res := by
  unfold F_X11_settle_J45 at hF
  obtain ⟨b2, eb2, kb2, hF⟩ := asB_some hF
  obtain ⟨q3, eq3, hF⟩ := bind_some' hF
  obtain rfl := Option.some.inj hF
  exact (Fr_tr Fr.rf (Fr_mono (fr_X9_run eq3) (fun a j h => by unfold Wr_X9_run at h; unfold Wr_X11_settle; have := bookc kb2; omega)))
theorem fr_X11_settle_B6 {N : Nat}  {nx6 : (Int × Sto) → Option (Sto)} {v1 : Int} {σ : Sto} {res : Sto} (hnx6 : ∀ q, nx6 q = some res → Fr (Wr_X11_settle) q.2 res) (hF : F_X11_settle_B6 N nx6 v1 σ = some res) : Fr (Wr_X11_settle) σ res := by
  unfold F_X11_settle_B6 at hF
  obtain ⟨b4, eb4, kb4, hF⟩ := asB_some hF
  by_cases c5 : (σ.1 b4 8) ≤ v1
  · have hF := (if_pos c5).symm.trans hF
    exact fr_X11_settle_J45  hF
  · have hF := (if_neg c5).symm.trans hF
    obtain ⟨q6, eq6, hF⟩ := bind_some' hF
    obtain ⟨q7, eq7, hF⟩ := bind_some' hF
    obtain ⟨b8, hF⟩ := inb_some hF
    exact Fr_tr (Fr_up Fr.rf (by unfold Wr_X11_settle; have := bookc kb4; omega)) (hnx6 _ hF)
theorem fr_X11_settle {N : Nat}  {σ : Sto} {res : Sto} (hF : F_X11_settle N  σ = some res) : Fr (Wr_X11_settle) σ res := by
  unfold F_X11_settle at hF
  obtain ⟨q1, eq1, hF⟩ := bind_some' hF
  exact Fr_tr (Fr_tr Fr.rf (Fr_mono (fr_X11_refreshFlow eq1) (fun a j h => by unfold Wr_X11_refreshFlow at h; unfold Wr_X11_settle; omega))) (loopK_ind (res := res) (P := fun (q : Int × Sto) => Fr (Wr_X11_settle) q.2 res) (fun nx q hn hF => fr_X11_settle_B6 hn hF) N _ hF)
def Wr_X11_settles (a : Nat) (j : Int) : Prop := ((47 ≤ a ∧ a ≤ 50)) ∨ ((53 ≤ a ∧ a ≤ 54)) ∨ ((56 ≤ a ∧ a ≤ 57)) ∨ ((59 ≤ a ∧ a ≤ 67)) ∨ ((69 ≤ a ∧ a ≤ 72)) ∨ (a = 58 ∧ j = 10) ∨ (a = 58 ∧ j = 11) ∨ (a = 58 ∧ j = 12) ∨ (a = 58 ∧ j = 13) ∨ (a = 0 ∧ j = 16) ∨ (a = 0 ∧ j = 17) ∨ (a = 52 ∧ j = 2) ∨ (a = 68 ∧ j = 4) ∨ (a = 46 ∧ j = 5) ∨ (a = 58 ∧ j = 9)
theorem fr_X11_settles {N : Nat}  {σ : Sto} {res : Int × Sto} (hF : F_X11_settles N  σ = some res) : Fr (Wr_X11_settles) σ res.2 := by
  unfold F_X11_settles at hF
  obtain ⟨q1, eq1, hF⟩ := bind_some' hF
  obtain rfl := Option.some.inj hF
  exact (Fr_tr Fr.rf (Fr_mono (fr_X11_settle eq1) (fun a j h => by unfold Wr_X11_settle at h; unfold Wr_X11_settles; omega)))
def Wr_X11_settling (a : Nat) (j : Int) : Prop := ((47 ≤ a ∧ a ≤ 50)) ∨ ((53 ≤ a ∧ a ≤ 54)) ∨ ((56 ≤ a ∧ a ≤ 57)) ∨ ((59 ≤ a ∧ a ≤ 67)) ∨ ((69 ≤ a ∧ a ≤ 72)) ∨ (a = 58 ∧ j = 10) ∨ (a = 58 ∧ j = 11) ∨ (a = 58 ∧ j = 12) ∨ (a = 58 ∧ j = 13) ∨ (a = 0 ∧ j = 16) ∨ (a = 0 ∧ j = 17) ∨ (a = 52 ∧ j = 2) ∨ (a = 68 ∧ j = 4) ∨ (a = 46 ∧ j = 5) ∨ (a = 58 ∧ j = 9)
theorem fr_X11_settling {N : Nat} {v1 : Int} {v2 : Int} {σ : Sto} {res : Int × Sto} (hF : F_X11_settling N v1 v2 σ = some res) : Fr (Wr_X11_settling) σ res.2 := by
  unfold F_X11_settling at hF
  by_cases c1 : v1 < 0
  · have hF := (if_pos c1).symm.trans hF
    obtain rfl := Option.some.inj hF
    exact Fr.rf
  · have hF := (if_neg c1).symm.trans hF
    by_cases c2 : v2 < 0
    · have hF := (if_pos c2).symm.trans hF
      obtain rfl := Option.some.inj hF
      exact Fr.rf
    · have hF := (if_neg c2).symm.trans hF
      by_cases c3 : v2 ≤ 2
      · have hF := (if_pos c3).symm.trans hF
        obtain ⟨q4, eq4, hF⟩ := bind_some' hF
        by_cases c5 : v1 < (q4.1 68 4)
        · have hF := (if_pos c5).symm.trans hF
          by_cases c6 : v2 = 0
          · have hF := (if_pos c6).symm.trans hF
            obtain ⟨b10, hF⟩ := inb_some hF
            obtain rfl := Option.some.inj hF
            exact (Fr_tr Fr.rf (Fr_mono (fr_X11_settle eq4) (fun a j h => by unfold Wr_X11_settle at h; unfold Wr_X11_settling; omega)))
          · have hF := (if_neg c6).symm.trans hF
            by_cases c7 : v2 = 1
            · have hF := (if_pos c7).symm.trans hF
              obtain ⟨b9, hF⟩ := inb_some hF
              obtain rfl := Option.some.inj hF
              exact (Fr_tr Fr.rf (Fr_mono (fr_X11_settle eq4) (fun a j h => by unfold Wr_X11_settle at h; unfold Wr_X11_settling; omega)))
            · have hF := (if_neg c7).symm.trans hF
              obtain ⟨b8, hF⟩ := inb_some hF
              obtain rfl := Option.some.inj hF
              exact (Fr_tr Fr.rf (Fr_mono (fr_X11_settle eq4) (fun a j h => by unfold Wr_X11_settle at h; unfold Wr_X11_settling; omega)))
        · have hF := (if_neg c5).symm.trans hF
          obtain rfl := Option.some.inj hF
          exact (Fr_tr Fr.rf (Fr_mono (fr_X11_settle eq4) (fun a j h => by unfold Wr_X11_settle at h; unfold Wr_X11_settling; omega)))
      · have hF := (if_neg c3).symm.trans hF
        obtain rfl := Option.some.inj hF
        exact Fr.rf
def Wr_X11_tax (a : Nat) (j : Int) : Prop := ((47 ≤ a ∧ a ≤ 50)) ∨ ((53 ≤ a ∧ a ≤ 54)) ∨ ((56 ≤ a ∧ a ≤ 57)) ∨ ((59 ≤ a ∧ a ≤ 67)) ∨ (a = 58 ∧ j = 10) ∨ (a = 58 ∧ j = 11) ∨ (a = 58 ∧ j = 12) ∨ (a = 58 ∧ j = 13) ∨ (a = 0 ∧ j = 16) ∨ (a = 0 ∧ j = 17) ∨ (a = 52 ∧ j = 2) ∨ (a = 46 ∧ j = 5) ∨ (a = 58 ∧ j = 9)
theorem fr_X11_tax_J82 {N : Nat}  {nx21 : (Int × Int) → Option (Int × Sto)} {v1 : Int} {v2 : Int} {v3 : Int} {σ : Sto} {res : Int × Sto} (hnx21 : ∀ q, nx21 q = some res → Fr (Wr_X11_tax) σ res.2) (hF : F_X11_tax_J82 N nx21 v1 v2 v3 σ = some res) : Fr (Wr_X11_tax) σ res.2 := by
  unfold F_X11_tax_J82 at hF
  exact hnx21 _ hF
theorem fr_X11_tax_B21 {N : Nat}  {nx21 : (Int × Int) → Option (Int × Sto)} {v1 : Int} {v2 : Int} {v3 : Int} {σ : Sto} {res : Int × Sto} (hnx21 : ∀ q, nx21 q = some res → Fr (Wr_X11_tax) σ res.2) (hF : F_X11_tax_B21 N nx21 v1 v2 v3 σ = some res) : Fr (Wr_X11_tax) σ res.2 := by
  unfold F_X11_tax_B21 at hF
  obtain ⟨b5, eb5, kb5, hF⟩ := asB_some hF
  by_cases c6 : (σ.1 b5 9) ≤ v3
  · have hF := (if_pos c6).symm.trans hF
    obtain rfl := Option.some.inj hF
    exact Fr.rf
  · have hF := (if_neg c6).symm.trans hF
    obtain ⟨b7, eb7, kb7, hF⟩ := asB_some hF
    obtain ⟨b8, hF⟩ := inb_some hF
    by_cases c9 : (σ.1 (b7 + 4) v3) = v1
    · have hF := (if_pos c9).symm.trans hF
      obtain ⟨b10, eb10, kb10, hF⟩ := asB_some hF
      by_cases c11 : (σ.1 (b10 + 7) v3) ≤ 0
      · have hF := (if_pos c11).symm.trans hF
        exact fr_X11_tax_J82 hnx21 hF
      · have hF := (if_neg c11).symm.trans hF
        obtain ⟨b12, eb12, kb12, hF⟩ := asB_some hF
        obtain ⟨b13, hF⟩ := inb_some hF
        exact fr_X11_tax_J82 hnx21 hF
    · have hF := (if_neg c9).symm.trans hF
      exact fr_X11_tax_J82 hnx21 hF
theorem fr_X11_tax {N : Nat} {v1 : Int} {σ : Sto} {res : Int × Sto} (hF : F_X11_tax N v1 σ = some res) : Fr (Wr_X11_tax) σ res.2 := by
  unfold F_X11_tax at hF
  obtain ⟨b1, eb1, kb1, hF⟩ := asB_some hF
  obtain ⟨q2, eq2, hF⟩ := bind_some' hF
  by_cases c3 : q2 = 0
  · have hF := (if_pos c3).symm.trans hF
    obtain rfl := Option.some.inj hF
    exact Fr.rf
  · have hF := (if_neg c3).symm.trans hF
    obtain ⟨q4, eq4, hF⟩ := bind_some' hF
    exact Fr_tr (Fr_tr Fr.rf (Fr_mono (fr_X11_refreshFlow eq4) (fun a j h => by unfold Wr_X11_refreshFlow at h; unfold Wr_X11_tax; have := bookc kb1; omega))) (loopK_ind (res := res) (P := fun (q : Int × Int) => Fr (Wr_X11_tax) q4 res.2) (fun nx q hn hF => fr_X11_tax_B21 hn hF) N _ hF)
def Wr_X11_without (a : Nat) (j : Int) : Prop := ((47 ≤ a ∧ a ≤ 50)) ∨ ((53 ≤ a ∧ a ≤ 54)) ∨ ((56 ≤ a ∧ a ≤ 57)) ∨ ((84 ≤ a ∧ a ≤ 92)) ∨ (a = 83 ∧ j = 10) ∨ (a = 83 ∧ j = 11) ∨ (a = 83 ∧ j = 12) ∨ (a = 83 ∧ j = 13) ∨ (a = 0 ∧ j = 16) ∨ (a = 52 ∧ j = 2) ∨ (a = 46 ∧ j = 5) ∨ (a = 83 ∧ j = 9)
theorem fr_X11_without {N : Nat} {v1 : Int} {σ : Sto} {res : Int × Sto} (hF : F_X11_without N v1 σ = some res) : Fr (Wr_X11_without) σ res.2 := by
  unfold F_X11_without at hF
  obtain ⟨b1, eb1, kb1, hF⟩ := asB_some hF
  obtain ⟨q2, eq2, hF⟩ := bind_some' hF
  by_cases c3 : q2 = 0
  · have hF := (if_pos c3).symm.trans hF
    obtain rfl := Option.some.inj hF
    exact Fr.rf
  · have hF := (if_neg c3).symm.trans hF
    obtain ⟨q4, eq4, hF⟩ := bind_some' hF
    obtain ⟨b5, eb5, kb5, hF⟩ := asB_some hF
    obtain ⟨b6, eb6, kb6, hF⟩ := asB_some hF
    obtain ⟨q7, eq7, hF⟩ := bind_some' hF
    obtain ⟨q8, eq8, hF⟩ := bind_some' hF
    obtain ⟨q9, eq9, hF⟩ := bind_some' hF
    obtain rfl := Option.some.inj hF
    exact (Fr_tr (Fr_tr (Fr_tr Fr.rf (Fr_mono (fr_X11_refreshNet eq4) (fun a j h => by unfold Wr_X11_refreshNet at h; unfold Wr_X11_without; have := bookc kb1; omega))) (Fr_mono (fr_X1_load eq8) (fun a j h => by unfold Wr_X1_load at h; unfold Wr_X11_without; have := bookc kb1; have := bookc kb5; have := bookc kb6; omega))) (Fr_mono (fr_X1_run eq9) (fun a j h => by unfold Wr_X1_run at h; unfold Wr_X11_without; have := bookc kb1; have := bookc kb5; have := bookc kb6; omega)))
def Wr_X11_gainByRoom (a : Nat) (j : Int) : Prop := ((47 ≤ a ∧ a ≤ 50)) ∨ ((53 ≤ a ∧ a ≤ 54)) ∨ ((56 ≤ a ∧ a ≤ 57)) ∨ ((59 ≤ a ∧ a ≤ 67)) ∨ ((84 ≤ a ∧ a ≤ 92)) ∨ (a = 58 ∧ j = 10) ∨ (a = 83 ∧ j = 10) ∨ (a = 58 ∧ j = 11) ∨ (a = 83 ∧ j = 11) ∨ (a = 58 ∧ j = 12) ∨ (a = 83 ∧ j = 12) ∨ (a = 58 ∧ j = 13) ∨ (a = 83 ∧ j = 13) ∨ (a = 0 ∧ j = 16) ∨ (a = 0 ∧ j = 17) ∨ (a = 52 ∧ j = 2) ∨ (a = 46 ∧ j = 5) ∨ (a = 58 ∧ j = 9) ∨ (a = 83 ∧ j = 9)
theorem fr_X11_gainByRoom {N : Nat} {v1 : Int} {v2 : Int} {v3 : Int} {σ : Sto} {res : Int × Sto} (hF : F_X11_gainByRoom N v1 v2 v3 σ = some res) : Fr (Wr_X11_gainByRoom) σ res.2 := by
  unfold F_X11_gainByRoom at hF
  obtain ⟨q1, eq1, hF⟩ := bind_some' hF
  obtain ⟨b2, eb2, kb2, hF⟩ := asB_some hF
  obtain ⟨q3, eq3, hF⟩ := bind_some' hF
  obtain ⟨b4, hF⟩ := inb_some hF
  obtain ⟨q5, eq5, hF⟩ := bind_some' hF
  obtain rfl := Option.some.inj hF
  exact (Fr_tr (Fr_up (Fr_tr (Fr_tr Fr.rf (Fr_mono (fr_X11_refreshFlow eq1) (fun a j h => by unfold Wr_X11_refreshFlow at h; unfold Wr_X11_gainByRoom; omega))) (Fr_mono (fr_X1_load eq3) (fun a j h => by unfold Wr_X1_load at h; unfold Wr_X11_gainByRoom; have := bookc kb2; omega))) (by unfold Wr_X11_gainByRoom; have := bookc kb2; omega)) (Fr_mono (fr_X1_run eq5) (fun a j h => by unfold Wr_X1_run at h; unfold Wr_X11_gainByRoom; have := bookc kb2; omega)))
def Wr_X11_worth (a : Nat) (j : Int) : Prop := ((47 ≤ a ∧ a ≤ 50)) ∨ ((53 ≤ a ∧ a ≤ 54)) ∨ ((56 ≤ a ∧ a ≤ 57)) ∨ ((59 ≤ a ∧ a ≤ 67)) ∨ ((84 ≤ a ∧ a ≤ 92)) ∨ (a = 58 ∧ j = 10) ∨ (a = 83 ∧ j = 10) ∨ (a = 58 ∧ j = 11) ∨ (a = 83 ∧ j = 11) ∨ (a = 58 ∧ j = 12) ∨ (a = 83 ∧ j = 12) ∨ (a = 58 ∧ j = 13) ∨ (a = 83 ∧ j = 13) ∨ (a = 0 ∧ j = 16) ∨ (a = 0 ∧ j = 17) ∨ (a = 52 ∧ j = 2) ∨ (a = 46 ∧ j = 5) ∨ (a = 58 ∧ j = 9) ∨ (a = 83 ∧ j = 9)
theorem fr_X11_worth_J21 {N : Nat}    {σ : Sto} {res : Int × Sto} (hF : F_X11_worth_J21 N   σ = some res) : Fr (Wr_X11_worth) σ res.2 := by
  unfold F_X11_worth_J21 at hF
  obtain rfl := Option.some.inj hF
  exact Fr.rf
theorem fr_X11_worth {N : Nat} {v1 : Int} {v2 : Int} {v3 : Int} {σ : Sto} {res : Int × Sto} (hF : F_X11_worth N v1 v2 v3 σ = some res) : Fr (Wr_X11_worth) σ res.2 := by
  unfold F_X11_worth at hF
  by_cases c1 : v3 < 1
  · have hF := (if_pos c1).symm.trans hF
    exact fr_X11_worth_J21  hF
  · have hF := (if_neg c1).symm.trans hF
    by_cases c2 : 99999 < v3
    · have hF := (if_pos c2).symm.trans hF
      exact fr_X11_worth_J21  hF
    · have hF := (if_neg c2).symm.trans hF
      obtain ⟨q3, eq3, hF⟩ := bind_some' hF
      by_cases c4 : q3.1 = 0
      · have hF := (if_pos c4).symm.trans hF
        exact Fr_tr (Fr_tr Fr.rf (Fr_mono (fr_X11_isLink eq3) (fun a j h => by unfold Wr_X11_isLink at h; unfold Wr_X11_worth; omega))) (fr_X11_worth_J21  hF)
      · have hF := (if_neg c4).symm.trans hF
        obtain ⟨q5, eq5, hF⟩ := bind_some' hF
        obtain rfl := Option.some.inj hF
        exact (Fr_tr (Fr_tr Fr.rf (Fr_mono (fr_X11_isLink eq3) (fun a j h => by unfold Wr_X11_isLink at h; unfold Wr_X11_worth; omega))) (Fr_mono (fr_X11_gainByRoom eq5) (fun a j h => by unfold Wr_X11_gainByRoom at h; unfold Wr_X11_worth; omega)))
def Wr_X11_lack (a : Nat) (j : Int) : Prop := ((47 ≤ a ∧ a ≤ 50)) ∨ ((53 ≤ a ∧ a ≤ 54)) ∨ ((56 ≤ a ∧ a ≤ 57)) ∨ ((59 ≤ a ∧ a ≤ 67)) ∨ ((84 ≤ a ∧ a ≤ 92)) ∨ (a = 58 ∧ j = 10) ∨ (a = 83 ∧ j = 10) ∨ (a = 58 ∧ j = 11) ∨ (a = 83 ∧ j = 11) ∨ (a = 58 ∧ j = 12) ∨ (a = 83 ∧ j = 12) ∨ (a = 58 ∧ j = 13) ∨ (a = 83 ∧ j = 13) ∨ (a = 0 ∧ j = 16) ∨ (a = 0 ∧ j = 17) ∨ (a = 52 ∧ j = 2) ∨ (a = 46 ∧ j = 5) ∨ (a = 58 ∧ j = 9) ∨ (a = 83 ∧ j = 9)
theorem fr_X11_lack_J21 {N : Nat}    {σ : Sto} {res : Int × Sto} (hF : F_X11_lack_J21 N   σ = some res) : Fr (Wr_X11_lack) σ res.2 := by
  unfold F_X11_lack_J21 at hF
  obtain rfl := Option.some.inj hF
  exact Fr.rf
theorem fr_X11_lack {N : Nat} {v1 : Int} {v2 : Int} {v3 : Int} {σ : Sto} {res : Int × Sto} (hF : F_X11_lack N v1 v2 v3 σ = some res) : Fr (Wr_X11_lack) σ res.2 := by
  unfold F_X11_lack at hF
  by_cases c1 : v3 < 1
  · have hF := (if_pos c1).symm.trans hF
    exact fr_X11_lack_J21  hF
  · have hF := (if_neg c1).symm.trans hF
    by_cases c2 : 99999 < v3
    · have hF := (if_pos c2).symm.trans hF
      exact fr_X11_lack_J21  hF
    · have hF := (if_neg c2).symm.trans hF
      obtain ⟨q3, eq3, hF⟩ := bind_some' hF
      by_cases c4 : q3.1 = 0
      · have hF := (if_pos c4).symm.trans hF
        exact Fr_tr (Fr_tr Fr.rf (Fr_mono (fr_X11_isLink eq3) (fun a j h => by unfold Wr_X11_isLink at h; unfold Wr_X11_lack; omega))) (fr_X11_lack_J21  hF)
      · have hF := (if_neg c4).symm.trans hF
        obtain ⟨q5, eq5, hF⟩ := bind_some' hF
        obtain rfl := Option.some.inj hF
        exact (Fr_tr (Fr_tr Fr.rf (Fr_mono (fr_X11_isLink eq3) (fun a j h => by unfold Wr_X11_isLink at h; unfold Wr_X11_lack; omega))) (Fr_mono (fr_X11_gainByRoom eq5) (fun a j h => by unfold Wr_X11_gainByRoom at h; unfold Wr_X11_lack; omega)))
def Wr_X11_reliefWithoutClaims (v1 : Nat) (v3 : Nat) (a : Nat) (j : Int) : Prop := ((81 ≤ a ∧ a ≤ 82)) ∨ ((84 ≤ a ∧ a ≤ 92)) ∨ (a = 83 ∧ j = 10) ∨ (a = 83 ∧ j = 11) ∨ (a = 83 ∧ j = 12) ∨ (a = 83 ∧ j = 13) ∨ (a = 73 ∧ j = 3) ∨ (a = 83 ∧ j = 9)
theorem fr_X11_reliefWithoutClaims {N : Nat} {v1 : Nat} {v2 : Int} {v3 : Nat} {σ : Sto} {res : Int × Sto} (hF : F_X11_reliefWithoutClaims N v1 v2 v3 σ = some res) : Fr (Wr_X11_reliefWithoutClaims v1 v3) σ res.2 := by
  unfold F_X11_reliefWithoutClaims at hF
  obtain ⟨q1, eq1, hF⟩ := bind_some' hF
  obtain ⟨b2, eb2, kb2, hF⟩ := asB_some hF
  obtain ⟨q3, eq3, hF⟩ := bind_some' hF
  obtain ⟨b4, eb4, kb4, hF⟩ := asB_some hF
  obtain ⟨q5, eq5, hF⟩ := bind_some' hF
  obtain ⟨q6, eq6, hF⟩ := bind_some' hF
  obtain rfl := Option.some.inj hF
  exact (Fr_tr (Fr_tr (Fr_tr (Fr_tr Fr.rf (Fr_mono (fr_X5_clear eq1) (fun a j h => by unfold Wr_X5_clear at h; unfold Wr_X11_reliefWithoutClaims; omega))) (Fr_mono (fr_X6_fill eq3) (fun a j h => by unfold Wr_X6_fill at h; unfold Wr_X11_reliefWithoutClaims; have := bookc kb2; omega))) (Fr_mono (fr_X1_load eq5) (fun a j h => by unfold Wr_X1_load at h; unfold Wr_X11_reliefWithoutClaims; have := bookc kb2; have := bookc kb4; omega))) (Fr_mono (fr_X1_run eq6) (fun a j h => by unfold Wr_X1_run at h; unfold Wr_X11_reliefWithoutClaims; have := bookc kb2; have := bookc kb4; omega)))
def Wr_X11_byCarry (a : Nat) (j : Int) : Prop := ((47 ≤ a ∧ a ≤ 50)) ∨ ((53 ≤ a ∧ a ≤ 54)) ∨ ((56 ≤ a ∧ a ≤ 57)) ∨ ((81 ≤ a ∧ a ≤ 82)) ∨ ((84 ≤ a ∧ a ≤ 92)) ∨ (a = 83 ∧ j = 10) ∨ (a = 83 ∧ j = 11) ∨ (a = 83 ∧ j = 12) ∨ (a = 83 ∧ j = 13) ∨ (a = 0 ∧ j = 16) ∨ (a = 52 ∧ j = 2) ∨ (a = 73 ∧ j = 3) ∨ (a = 46 ∧ j = 5) ∨ (a = 83 ∧ j = 9)
theorem fr_X11_byCarry {N : Nat} {v1 : Int} {σ : Sto} {res : Int × Sto} (hF : F_X11_byCarry N v1 σ = some res) : Fr (Wr_X11_byCarry) σ res.2 := by
  unfold F_X11_byCarry at hF
  by_cases c1 : v1 < 0
  · have hF := (if_pos c1).symm.trans hF
    obtain rfl := Option.some.inj hF
    exact Fr.rf
  · have hF := (if_neg c1).symm.trans hF
    by_cases c2 : v1 ≤ 1
    · have hF := (if_pos c2).symm.trans hF
      obtain ⟨q3, eq3, hF⟩ := bind_some' hF
      obtain ⟨b4, eb4, kb4, hF⟩ := asB_some hF
      obtain ⟨q5, eq5, hF⟩ := bind_some' hF
      obtain rfl := Option.some.inj hF
      exact (Fr_tr (Fr_tr Fr.rf (Fr_mono (fr_X11_refreshNet eq3) (fun a j h => by unfold Wr_X11_refreshNet at h; unfold Wr_X11_byCarry; omega))) (Fr_mono (fr_X11_reliefWithoutClaims eq5) (fun a j h => by unfold Wr_X11_reliefWithoutClaims at h; unfold Wr_X11_byCarry; have := bookc kb4; omega)))
    · have hF := (if_neg c2).symm.trans hF
      obtain rfl := Option.some.inj hF
      exact Fr.rf
def Wr_X11_reliefByGate (a : Nat) (j : Int) : Prop := ((47 ≤ a ∧ a ≤ 50)) ∨ ((78 ≤ a ∧ a ≤ 79)) ∨ ((81 ≤ a ∧ a ≤ 82)) ∨ ((84 ≤ a ∧ a ≤ 92)) ∨ (a = 83 ∧ j = 10) ∨ (a = 83 ∧ j = 11) ∨ (a = 83 ∧ j = 12) ∨ (a = 83 ∧ j = 13) ∨ (a = 77 ∧ j = 2) ∨ (a = 73 ∧ j = 3) ∨ (a = 46 ∧ j = 5) ∨ (a = 83 ∧ j = 9)
theorem fr_X11_reliefByGate {N : Nat} {v1 : Int} {σ : Sto} {res : Int × Sto} (hF : F_X11_reliefByGate N v1 σ = some res) : Fr (Wr_X11_reliefByGate) σ res.2 := by
  unfold F_X11_reliefByGate at hF
  obtain ⟨b1, eb1, kb1, hF⟩ := asB_some hF
  obtain ⟨q2, eq2, hF⟩ := bind_some' hF
  obtain ⟨b3, eb3, kb3, hF⟩ := asB_some hF
  obtain ⟨b4, eb4, kb4, hF⟩ := asB_some hF
  obtain ⟨q5, eq5, hF⟩ := bind_some' hF
  obtain rfl := Option.some.inj hF
  exact (Fr_tr (Fr_tr Fr.rf (Fr_mono (fr_X4_fill eq2) (fun a j h => by unfold Wr_X4_fill at h; unfold Wr_X11_reliefByGate; have := bookc kb1; omega))) (Fr_mono (fr_X11_reliefWithoutClaims eq5) (fun a j h => by unfold Wr_X11_reliefWithoutClaims at h; unfold Wr_X11_reliefByGate; have := bookc kb1; have := bookc kb3; have := bookc kb4; omega)))
def Wr_X11_byGate (a : Nat) (j : Int) : Prop := ((47 ≤ a ∧ a ≤ 50)) ∨ ((78 ≤ a ∧ a ≤ 79)) ∨ ((81 ≤ a ∧ a ≤ 82)) ∨ ((84 ≤ a ∧ a ≤ 92)) ∨ (a = 83 ∧ j = 10) ∨ (a = 83 ∧ j = 11) ∨ (a = 83 ∧ j = 12) ∨ (a = 83 ∧ j = 13) ∨ (a = 77 ∧ j = 2) ∨ (a = 73 ∧ j = 3) ∨ (a = 46 ∧ j = 5) ∨ (a = 83 ∧ j = 9)
theorem fr_X11_byGate_J11 {N : Nat}    {σ : Sto} {res : Int × Sto} (hF : F_X11_byGate_J11 N   σ = some res) : Fr (Wr_X11_byGate) σ res.2 := by
  unfold F_X11_byGate_J11 at hF
  obtain rfl := Option.some.inj hF
  exact Fr.rf
theorem fr_X11_byGate {N : Nat} {v1 : Int} {σ : Sto} {res : Int × Sto} (hF : F_X11_byGate N v1 σ = some res) : Fr (Wr_X11_byGate) σ res.2 := by
  unfold F_X11_byGate at hF
  by_cases c1 : v1 < 1
  · have hF := (if_pos c1).symm.trans hF
    exact fr_X11_byGate_J11  hF
  · have hF := (if_neg c1).symm.trans hF
    by_cases c2 : v1 ≤ 100
    · have hF := (if_pos c2).symm.trans hF
      obtain ⟨q3, eq3, hF⟩ := bind_some' hF
      obtain rfl := Option.some.inj hF
      exact (Fr_tr Fr.rf (Fr_mono (fr_X11_reliefByGate eq3) (fun a j h => by unfold Wr_X11_reliefByGate at h; unfold Wr_X11_byGate; omega)))
    · have hF := (if_neg c2).symm.trans hF
      exact fr_X11_byGate_J11  hF
def Wr_X11_gateFor (a : Nat) (j : Int) : Prop := ((47 ≤ a ∧ a ≤ 50)) ∨ ((78 ≤ a ∧ a ≤ 79)) ∨ ((81 ≤ a ∧ a ≤ 82)) ∨ ((84 ≤ a ∧ a ≤ 92)) ∨ (a = 83 ∧ j = 10) ∨ (a = 83 ∧ j = 11) ∨ (a = 83 ∧ j = 12) ∨ (a = 83 ∧ j = 13) ∨ (a = 77 ∧ j = 2) ∨ (a = 73 ∧ j = 3) ∨ (a = 46 ∧ j = 5) ∨ (a = 83 ∧ j = 9)
theorem fr_X11_gateFor_J69 {N : Nat}   {v2 : Int} {σ : Sto} {res : Int × Sto} (hF : F_X11_gateFor_J69 N  v2 σ = some res) : Fr (Wr_X11_gateFor) σ res.2 := by
  unfold F_X11_gateFor_J69 at hF
  by_cases c3 : v2 = 0
  · have hF := (if_pos c3).symm.trans hF
    obtain rfl := Option.some.inj hF
    exact Fr.rf
  · have hF := (if_neg c3).symm.trans hF
    obtain rfl := Option.some.inj hF
    exact Fr.rf
theorem fr_X11_gateFor_J63 {N : Nat}  {nx21 : (Int × Int × Int × Sto) → Option (Int × Sto)} {v1 : Int} {v2 : Int} {v3 : Int} {v4 : Int} {σ : Sto} {res : Int × Sto} (hnx21 : ∀ q, nx21 q = some res → Fr (Wr_X11_gateFor) q.2.2.2 res.2) (hF : F_X11_gateFor_J63 N nx21 v1 v2 v3 v4 σ = some res) : Fr (Wr_X11_gateFor) σ res.2 := by
  unfold F_X11_gateFor_J63 at hF
  exact Fr_tr Fr.rf (hnx21 _ hF)
theorem fr_X11_gateFor_B21 {N : Nat}  {nx21 : (Int × Int × Int × Sto) → Option (Int × Sto)} {v1 : Int} {v2 : Int} {v3 : Int} {v4 : Int} {σ : Sto} {res : Int × Sto} (hnx21 : ∀ q, nx21 q = some res → Fr (Wr_X11_gateFor) q.2.2.2 res.2) (hF : F_X11_gateFor_B21 N nx21 v1 v2 v3 v4 σ = some res) : Fr (Wr_X11_gateFor) σ res.2 := by
  unfold F_X11_gateFor_B21 at hF
  by_cases c4 : 100 ≤ v4
  · have hF := (if_pos c4).symm.trans hF
    exact fr_X11_gateFor_J69  hF
  · have hF := (if_neg c4).symm.trans hF
    by_cases c5 : v3 ≤ v2
    · have hF := (if_pos c5).symm.trans hF
      exact fr_X11_gateFor_J69  hF
    · have hF := (if_neg c5).symm.trans hF
      obtain ⟨q6, eq6, hF⟩ := bind_some' hF
      by_cases c7 : q6.1 < v1
      · have hF := (if_pos c7).symm.trans hF
        exact Fr_tr (Fr_tr Fr.rf (Fr_mono (fr_X11_reliefByGate eq6) (fun a j h => by unfold Wr_X11_reliefByGate at h; unfold Wr_X11_gateFor; omega))) (fr_X11_gateFor_J63 hnx21 hF)
      · have hF := (if_neg c7).symm.trans hF
        exact Fr_tr (Fr_tr Fr.rf (Fr_mono (fr_X11_reliefByGate eq6) (fun a j h => by unfold Wr_X11_reliefByGate at h; unfold Wr_X11_gateFor; omega))) (fr_X11_gateFor_J63 hnx21 hF)
theorem fr_X11_gateFor {N : Nat} {v1 : Int} {σ : Sto} {res : Int × Sto} (hF : F_X11_gateFor N v1 σ = some res) : Fr (Wr_X11_gateFor) σ res.2 := by
  unfold F_X11_gateFor at hF
  by_cases c1 : v1 < 0
  · have hF := (if_pos c1).symm.trans hF
    obtain rfl := Option.some.inj hF
    exact Fr.rf
  · have hF := (if_neg c1).symm.trans hF
    by_cases c2 : v1 ≤ 9999999
    · have hF := (if_pos c2).symm.trans hF
      exact (loopK_ind (res := res) (P := fun (q : Int × Int × Int × Sto) => Fr (Wr_X11_gateFor) q.2.2.2 res.2) (fun nx q hn hF => fr_X11_gateFor_B21 hn hF) N _ hF)
    · have hF := (if_neg c2).symm.trans hF
      obtain rfl := Option.some.inj hF
      exact Fr.rf
def Wr_X11_ifFirst (a : Nat) (j : Int) : Prop := ((47 ≤ a ∧ a ≤ 50)) ∨ ((53 ≤ a ∧ a ≤ 54)) ∨ ((56 ≤ a ∧ a ≤ 57)) ∨ ((81 ≤ a ∧ a ≤ 82)) ∨ ((84 ≤ a ∧ a ≤ 93)) ∨ (a = 83 ∧ j = 10) ∨ (a = 83 ∧ j = 11) ∨ (a = 83 ∧ j = 12) ∨ (a = 83 ∧ j = 13) ∨ (a = 0 ∧ j = 16) ∨ (a = 52 ∧ j = 2) ∨ (a = 73 ∧ j = 3) ∨ (a = 46 ∧ j = 5) ∨ (a = 83 ∧ j = 9)
theorem fr_X11_ifFirst {N : Nat} {v1 : Int} {v2 : Int} {σ : Sto} {res : Int × Sto} (hF : F_X11_ifFirst N v1 v2 σ = some res) : Fr (Wr_X11_ifFirst) σ res.2 := by
  unfold F_X11_ifFirst at hF
  obtain ⟨b1, eb1, kb1, hF⟩ := asB_some hF
  obtain ⟨q2, eq2, hF⟩ := bind_some' hF
  by_cases c3 : q2 = 0
  · have hF := (if_pos c3).symm.trans hF
    obtain rfl := Option.some.inj hF
    exact Fr.rf
  · have hF := (if_neg c3).symm.trans hF
    by_cases c4 : v2 < 0
    · have hF := (if_pos c4).symm.trans hF
      obtain rfl := Option.some.inj hF
      exact Fr.rf
    · have hF := (if_neg c4).symm.trans hF
      obtain ⟨b5, eb5, kb5, hF⟩ := asB_some hF
      obtain ⟨b6, hF⟩ := inb_some hF
      by_cases c7 : v2 ≤ (σ.1 (b5 + 6) v1)
      · have hF := (if_pos c7).symm.trans hF
        obtain ⟨b8, eb8, kb8, hF⟩ := asB_some hF
        obtain ⟨b9, eb9, kb9, hF⟩ := asB_some hF
        obtain ⟨b10, eb10, kb10, hF⟩ := asB_some hF
        obtain ⟨q11, eq11, hF⟩ := bind_some' hF
        by_cases c12 : q11 = 0
        · have hF := (if_pos c12).symm.trans hF
          obtain ⟨b13, eb13, kb13, hF⟩ := asB_some hF
          obtain ⟨y14, hF⟩ := grd_some hF
          obtain ⟨q15, eq15, hF⟩ := bind_some' hF
          obtain ⟨b16, eb16, kb16, hF⟩ := asB_some hF
          obtain ⟨q17, eq17, hF⟩ := bind_some' hF
          obtain rfl := Option.some.inj hF
          exact (Fr_tr (Fr_tr (Fr_up (Fr_cp Fr.rf (fun j => (by unfold Wr_X11_ifFirst; have := bookc kb1; have := bookc kb5; have := bookc kb8; have := bookc kb9; have := bookc kb10; have := bookc kb13; omega))) (by unfold Wr_X11_ifFirst; have := bookc kb1; have := bookc kb5; have := bookc kb8; have := bookc kb9; have := bookc kb10; have := bookc kb13; omega)) (Fr_mono (fr_X11_refreshNet eq15) (fun a j h => by unfold Wr_X11_refreshNet at h; unfold Wr_X11_ifFirst; have := bookc kb1; have := bookc kb5; have := bookc kb8; have := bookc kb9; have := bookc kb10; have := bookc kb13; omega))) (Fr_mono (fr_X11_reliefWithoutClaims eq17) (fun a j h => by unfold Wr_X11_reliefWithoutClaims at h; unfold Wr_X11_ifFirst; have := bookc kb1; have := bookc kb5; have := bookc kb8; have := bookc kb9; have := bookc kb10; have := bookc kb13; have := bookc kb16; omega)))
        · have hF := (if_neg c12).symm.trans hF
          obtain rfl := Option.some.inj hF
          exact Fr.rf
      · have hF := (if_neg c7).symm.trans hF
        obtain rfl := Option.some.inj hF
        exact Fr.rf
def Wr_X11_chance (a : Nat) (j : Int) : Prop := ((47 ≤ a ∧ a ≤ 50)) ∨ ((53 ≤ a ∧ a ≤ 54)) ∨ ((56 ≤ a ∧ a ≤ 57)) ∨ ((74 ≤ a ∧ a ≤ 76)) ∨ ((84 ≤ a ∧ a ≤ 92)) ∨ (a = 83 ∧ j = 10) ∨ (a = 83 ∧ j = 11) ∨ (a = 83 ∧ j = 12) ∨ (a = 83 ∧ j = 13) ∨ (a = 0 ∧ j = 16) ∨ (a = 52 ∧ j = 2) ∨ (a = 73 ∧ j = 3) ∨ (a = 46 ∧ j = 5) ∨ (a = 83 ∧ j = 9)
theorem fr_X11_chance_J170 {N : Nat}   {v3 : Int} {v5 : Int} {σ : Sto} {res : Int × Sto} (hF : F_X11_chance_J170 N  v3 v5 σ = some res) : Fr (Wr_X11_chance) σ res.2 := by
  unfold F_X11_chance_J170 at hF
  by_cases c8 : 2 ≤ v3
  · have hF := (if_pos c8).symm.trans hF
    obtain ⟨q9, eq9, hF⟩ := bind_some' hF
    obtain ⟨b10, eb10, kb10, hF⟩ := asB_some hF
    obtain ⟨q11, eq11, hF⟩ := bind_some' hF
    obtain ⟨q12, eq12, hF⟩ := bind_some' hF
    obtain rfl := Option.some.inj hF
    exact (Fr_tr (Fr_tr (Fr_tr Fr.rf (Fr_mono (fr_X11_refreshNet eq9) (fun a j h => by unfold Wr_X11_refreshNet at h; unfold Wr_X11_chance; omega))) (Fr_mono (fr_X1_load eq11) (fun a j h => by unfold Wr_X1_load at h; unfold Wr_X11_chance; have := bookc kb10; omega))) (Fr_mono (fr_X1_run eq12) (fun a j h => by unfold Wr_X1_run at h; unfold Wr_X11_chance; have := bookc kb10; omega)))
  · have hF := (if_neg c8).symm.trans hF
    by_cases c13 : v3 = 0
    · have hF := (if_pos c13).symm.trans hF
      obtain rfl := Option.some.inj hF
      exact Fr.rf
    · have hF := (if_neg c13).symm.trans hF
      obtain rfl := Option.some.inj hF
      exact Fr.rf
theorem fr_X11_chance_J164 {N : Nat}  {nx73 : (Int × Int × Int × Sto) → Option (Int × Sto)} {v2 : Int} {v3 : Int} {v4 : Int} {v5 : Int} {v6 : Int} {σ : Sto} {res : Int × Sto} (hnx73 : ∀ q, nx73 q = some res → Fr (Wr_X11_chance) q.2.2.2 res.2) (hF : F_X11_chance_J164 N nx73 v2 v3 v4 v5 v6 σ = some res) : Fr (Wr_X11_chance) σ res.2 := by
  unfold F_X11_chance_J164 at hF
  exact Fr_tr Fr.rf (hnx73 _ hF)
theorem fr_X11_chance_B73 {N : Nat}  {nx73 : (Int × Int × Int × Sto) → Option (Int × Sto)} {v2 : Int} {v3 : Int} {v4 : Int} {v5 : Int} {v6 : Int} {σ : Sto} {res : Int × Sto} (hnx73 : ∀ q, nx73 q = some res → Fr (Wr_X11_chance) q.2.2.2 res.2) (hF : F_X11_chance_B73 N nx73 v2 v3 v4 v5 v6 σ = some res) : Fr (Wr_X11_chance) σ res.2 := by
  unfold F_X11_chance_B73 at hF
  by_cases c14 : v2 ≤ v6
  · have hF := (if_pos c14).symm.trans hF
    exact fr_X11_chance_J170  hF
  · have hF := (if_neg c14).symm.trans hF
    obtain ⟨q15, eq15, hF⟩ := bind_some' hF
    obtain ⟨b16, eb16, kb16, hF⟩ := asB_some hF
    obtain ⟨q17, eq17, hF⟩ := bind_some' hF
    obtain ⟨q18, eq18, hF⟩ := bind_some' hF
    obtain ⟨b19, eb19, kb19, hF⟩ := asB_some hF
    obtain ⟨q20, eq20, hF⟩ := bind_some' hF
    obtain ⟨q21, eq21, hF⟩ := bind_some' hF
    obtain ⟨q22, eq22, hF⟩ := bind_some' hF
    obtain ⟨q23, eq23, hF⟩ := bind_some' hF
    by_cases c24 : q23.1 < 0
    · have hF := (if_pos c24).symm.trans hF
      exact Fr_tr (Fr_tr Fr.rf (Fr_mono (fr_X11_enter eq23) (fun a j h => by unfold Wr_X11_enter at h; unfold Wr_X11_chance; have := bookc kb16; have := bookc kb19; omega))) (fr_X11_chance_J164 hnx73 hF)
    · have hF := (if_neg c24).symm.trans hF
      exact Fr_tr (Fr_tr Fr.rf (Fr_mono (fr_X11_enter eq23) (fun a j h => by unfold Wr_X11_enter at h; unfold Wr_X11_chance; have := bookc kb16; have := bookc kb19; omega))) (fr_X11_chance_J164 hnx73 hF)
theorem fr_X11_chance_J65 {N : Nat}   {v2 : Int} {v3 : Int} {t0 : Int} {σ : Sto} {res : Int × Sto} (hF : F_X11_chance_J65 N  v2 v3 t0 σ = some res) : Fr (Wr_X11_chance) σ res.2 := by
  unfold F_X11_chance_J65 at hF
  exact (loopK_ind (res := res) (P := fun (q : Int × Int × Int × Sto) => Fr (Wr_X11_chance) q.2.2.2 res.2) (fun nx q hn hF => fr_X11_chance_B73 hn hF) N _ hF)
theorem fr_X11_chance {N : Nat} {v1 : Int} {v2 : Int} {v3 : Int} {σ : Sto} {res : Int × Sto} (hF : F_X11_chance N v1 v2 v3 σ = some res) : Fr (Wr_X11_chance) σ res.2 := by
  unfold F_X11_chance at hF
  by_cases c1 : v1 < (-1)
  · have hF := (if_pos c1).symm.trans hF
    obtain rfl := Option.some.inj hF
    exact Fr.rf
  · have hF := (if_neg c1).symm.trans hF
    by_cases c2 : v2 < 1
    · have hF := (if_pos c2).symm.trans hF
      obtain rfl := Option.some.inj hF
      exact Fr.rf
    · have hF := (if_neg c2).symm.trans hF
      by_cases c3 : 60 < v2
      · have hF := (if_pos c3).symm.trans hF
        obtain rfl := Option.some.inj hF
        exact Fr.rf
      · have hF := (if_neg c3).symm.trans hF
        by_cases c4 : v3 < 0
        · have hF := (if_pos c4).symm.trans hF
          obtain rfl := Option.some.inj hF
          exact Fr.rf
        · have hF := (if_neg c4).symm.trans hF
          by_cases c5 : 2 < v3
          · have hF := (if_pos c5).symm.trans hF
            obtain rfl := Option.some.inj hF
            exact Fr.rf
          · have hF := (if_neg c5).symm.trans hF
            obtain ⟨b6, eb6, kb6, hF⟩ := asB_some hF
            by_cases c7 : 1 ≤ (σ.1 b6 9)
            · have hF := (if_pos c7).symm.trans hF
              obtain ⟨q25, eq25, hF⟩ := bind_some' hF
              by_cases c26 : v1 = (-1)
              · have hF := (if_pos c26).symm.trans hF
                obtain ⟨b27, eb27, kb27, hF⟩ := asB_some hF
                exact Fr_tr (Fr_tr Fr.rf (Fr_mono (fr_X5_copy eq25) (fun a j h => by unfold Wr_X5_copy at h; unfold Wr_X11_chance; have := bookc kb6; omega))) (fr_X11_chance_J65  hF)
              · have hF := (if_neg c26).symm.trans hF
                exact Fr_tr (Fr_tr Fr.rf (Fr_mono (fr_X5_copy eq25) (fun a j h => by unfold Wr_X5_copy at h; unfold Wr_X11_chance; have := bookc kb6; omega))) (fr_X11_chance_J65  hF)
            · have hF := (if_neg c7).symm.trans hF
              obtain rfl := Option.some.inj hF
              exact Fr.rf
def Wr_X11_undo (a : Nat) (j : Int) : Prop := (a = 10) ∨ (a = 23) ∨ ((30 ≤ a ∧ a ≤ 32)) ∨ (a = 33 ∧ j = 1) ∨ (a = 0 ∧ j = 16) ∨ (a = 0 ∧ j = 17) ∨ (a = 29 ∧ j = 3) ∨ (a = 11 ∧ j = 4) ∨ (a = 24 ∧ j = 4)
theorem fr_X11_undo_J144 {N : Nat}    {σ : Sto} {res : Int × Sto} (hF : F_X11_undo_J144 N   σ = some res) : Fr (Wr_X11_undo) σ res.2 := by
  unfold F_X11_undo_J144 at hF
  obtain ⟨q2, eq2, hF⟩ := bind_some' hF
  obtain rfl := Option.some.inj hF
  exact (Fr_tr Fr.rf (Fr_mono (fr_X11_forgetNet eq2) (fun a j h => by unfold Wr_X11_forgetNet at h; unfold Wr_X11_undo; omega)))
theorem fr_X11_undo {N : Nat}  {σ : Sto} {res : Int × Sto} (hF : F_X11_undo N  σ = some res) : Fr (Wr_X11_undo) σ res.2 := by
  unfold F_X11_undo at hF
  by_cases c1 : (σ.1 33 1) = 0
  · have hF := (if_pos c1).symm.trans hF
    obtain rfl := Option.some.inj hF
    exact Fr.rf
  · have hF := (if_neg c1).symm.trans hF
    obtain ⟨q3, eq3, hF⟩ := bind_some' hF
    obtain ⟨b4, hF⟩ := inb_some hF
    by_cases c5 : (q3.2.1 34 q3.1) = 0
    · have hF := (if_pos c5).symm.trans hF
      obtain ⟨b6, hF⟩ := inb_some hF
      exact Fr_tr (Fr_up (Fr_tr Fr.rf (Fr_mono (fr_X2_pop eq3) (fun a j h => by unfold Wr_X2_pop at h; unfold Wr_X11_undo; omega))) (by unfold Wr_X11_undo; omega)) (fr_X11_undo_J144  hF)
    · have hF := (if_neg c5).symm.trans hF
      by_cases c7 : (q3.2.1 34 q3.1) = 1
      · have hF := (if_pos c7).symm.trans hF
        obtain ⟨b8, hF⟩ := inb_some hF
        obtain ⟨b9, hF⟩ := inb_some hF
        obtain ⟨b10, hF⟩ := inb_some hF
        obtain ⟨b11, hF⟩ := inb_some hF
        obtain ⟨q12, eq12, hF⟩ := bind_some' hF
        exact Fr_tr (Fr_tr (Fr_tr Fr.rf (Fr_mono (fr_X2_pop eq3) (fun a j h => by unfold Wr_X2_pop at h; unfold Wr_X11_undo; omega))) (Fr_mono (fr_X5_insert eq12) (fun a j h => by unfold Wr_X5_insert at h; unfold Wr_X11_undo; omega))) (fr_X11_undo_J144  hF)
      · have hF := (if_neg c7).symm.trans hF
        by_cases c13 : (q3.2.1 34 q3.1) = 2
        · have hF := (if_pos c13).symm.trans hF
          obtain ⟨b14, eb14, kb14, hF⟩ := asB_some hF
          obtain ⟨b15, hF⟩ := inb_some hF
          obtain ⟨b16, hF⟩ := inb_some hF
          obtain ⟨b17, hF⟩ := inb_some hF
          exact Fr_tr (Fr_up (Fr_tr Fr.rf (Fr_mono (fr_X2_pop eq3) (fun a j h => by unfold Wr_X2_pop at h; unfold Wr_X11_undo; omega))) (by unfold Wr_X11_undo; have := bookc kb14; omega)) (fr_X11_undo_J144  hF)
        · have hF := (if_neg c13).symm.trans hF
          obtain ⟨b18, eb18, kb18, hF⟩ := asB_some hF
          obtain ⟨q19, eq19, hF⟩ := bind_some' hF
          exact Fr_tr (Fr_tr (Fr_tr Fr.rf (Fr_mono (fr_X2_pop eq3) (fun a j h => by unfold Wr_X2_pop at h; unfold Wr_X11_undo; omega))) (Fr_mono (fr_X7_dropLast eq19) (fun a j h => by unfold Wr_X7_dropLast at h; unfold Wr_X11_undo; have := bookc kb18; omega))) (fr_X11_undo_J144  hF)
def Wr_X11_keep (a : Nat) (j : Int) : Prop := ((37 ≤ a ∧ a ≤ 39)) ∨ ((41 ≤ a ∧ a ≤ 45)) ∨ ((35 ≤ a ∧ a ≤ 36) ∧ j = 3) ∨ (a = 40 ∧ j = 4)
theorem fr_X11_keep {N : Nat}  {σ : Sto} {res : Int × Sto} (hF : F_X11_keep N  σ = some res) : Fr (Wr_X11_keep) σ res.2 := by
  unfold F_X11_keep at hF
  obtain ⟨q1, eq1, hF⟩ := bind_some' hF
  obtain ⟨b2, eb2, kb2, hF⟩ := asB_some hF
  obtain ⟨q3, eq3, hF⟩ := bind_some' hF
  obtain ⟨b4, eb4, kb4, hF⟩ := asB_some hF
  obtain ⟨y5, hF⟩ := grd_some hF
  obtain rfl := Option.some.inj hF
  exact (Fr_cp (Fr_tr (Fr_tr (Fr_up Fr.rf (by unfold Wr_X11_keep; omega)) (Fr_mono (fr_X5_copy eq1) (fun a j h => by unfold Wr_X5_copy at h; unfold Wr_X11_keep; omega))) (Fr_mono (fr_X7_copy eq3) (fun a j h => by unfold Wr_X7_copy at h; unfold Wr_X11_keep; have := bookc kb2; omega))) (fun j => (by unfold Wr_X11_keep; have := bookc kb2; have := bookc kb4; omega)))
def Wr_X11_back (a : Nat) (j : Int) : Prop := (a = 10) ∨ ((12 ≤ a ∧ a ≤ 15)) ∨ (a = 23) ∨ ((25 ≤ a ∧ a ≤ 28)) ∨ ((30 ≤ a ∧ a ≤ 32)) ∨ (a = 33 ∧ j = 1) ∨ (a = 0 ∧ j = 16) ∨ (a = 0 ∧ j = 17) ∨ (a = 29 ∧ j = 3) ∨ (a = 11 ∧ j = 4) ∨ (a = 24 ∧ j = 4)
theorem fr_X11_back {N : Nat}  {σ : Sto} {res : Int × Sto} (hF : F_X11_back N  σ = some res) : Fr (Wr_X11_back) σ res.2 := by
  unfold F_X11_back at hF
  by_cases c1 : (σ.1 35 3) = 0
  · have hF := (if_pos c1).symm.trans hF
    obtain rfl := Option.some.inj hF
    exact Fr.rf
  · have hF := (if_neg c1).symm.trans hF
    obtain ⟨q2, eq2, hF⟩ := bind_some' hF
    obtain ⟨b3, eb3, kb3, hF⟩ := asB_some hF
    obtain ⟨q4, eq4, hF⟩ := bind_some' hF
    obtain ⟨b5, eb5, kb5, hF⟩ := asB_some hF
    obtain ⟨y6, hF⟩ := grd_some hF
    obtain ⟨q7, eq7, hF⟩ := bind_some' hF
    obtain ⟨q8, eq8, hF⟩ := bind_some' hF
    obtain rfl := Option.some.inj hF
    exact (Fr_tr (Fr_tr (Fr_cp (Fr_tr (Fr_tr Fr.rf (Fr_mono (fr_X5_copy eq2) (fun a j h => by unfold Wr_X5_copy at h; unfold Wr_X11_back; omega))) (Fr_mono (fr_X7_copy eq4) (fun a j h => by unfold Wr_X7_copy at h; unfold Wr_X11_back; have := bookc kb3; omega))) (fun j => (by unfold Wr_X11_back; have := bookc kb3; have := bookc kb5; omega))) (Fr_mono (fr_X2_clear eq7) (fun a j h => by unfold Wr_X2_clear at h; unfold Wr_X11_back; have := bookc kb3; have := bookc kb5; omega))) (Fr_mono (fr_X11_forgetNet eq8) (fun a j h => by unfold Wr_X11_forgetNet at h; unfold Wr_X11_back; have := bookc kb3; have := bookc kb5; omega)))
def Wr_X12_feed (a : Nat) (j : Int) : Prop := (a = 95) ∨ (a = 94 ∧ j = 1) ∨ (a = 94 ∧ j = 2)
theorem fr_X12_feed_J113 {N : Nat}    {σ : Sto} {res : Int × Sto} (hF : F_X12_feed_J113 N   σ = some res) : Fr (Wr_X12_feed) σ res.2 := by
  unfold F_X12_feed_J113 at hF
  obtain rfl := Option.some.inj hF
  exact (Fr_up Fr.rf (by unfold Wr_X12_feed; omega))
theorem fr_X12_feed_J76 {N : Nat}  {nx23 : (Int × Sto) → Option (Int × Sto)} {v1 : Int} {v2 : Int} {v3 : Int} {v4 : Int} {v5 : Int} {v6 : Int} {t0 : Int} {σ : Sto} {res : Int × Sto} (hnx23 : ∀ q, nx23 q = some res → Fr (Wr_X12_feed) q.2 res.2) (hF : F_X12_feed_J76 N nx23 v1 v2 v3 v4 v5 v6 t0 σ = some res) : Fr (Wr_X12_feed) σ res.2 := by
  unfold F_X12_feed_J76 at hF
  obtain ⟨b3, hF⟩ := inb_some hF
  exact Fr_tr (Fr_up Fr.rf (by unfold Wr_X12_feed; omega)) (hnx23 _ hF)
theorem fr_X12_feed_B23 {N : Nat}  {nx23 : (Int × Sto) → Option (Int × Sto)} {v1 : Int} {v2 : Int} {v3 : Int} {v4 : Int} {v5 : Int} {v6 : Int} {σ : Sto} {res : Int × Sto} (hnx23 : ∀ q, nx23 q = some res → Fr (Wr_X12_feed) q.2 res.2) (hF : F_X12_feed_B23 N nx23 v1 v2 v3 v4 v5 v6 σ = some res) : Fr (Wr_X12_feed) σ res.2 := by
  unfold F_X12_feed_B23 at hF
  by_cases c2 : 20 ≤ v6
  · have hF := (if_pos c2).symm.trans hF
    exact fr_X12_feed_J113  hF
  · have hF := (if_neg c2).symm.trans hF
    by_cases c4 : 4 ≤ v6
    · have hF := (if_pos c4).symm.trans hF
      by_cases c5 : 8 ≤ v6
      · have hF := (if_pos c5).symm.trans hF
        by_cases c6 : 12 ≤ v6
        · have hF := (if_pos c6).symm.trans hF
          by_cases c7 : 16 ≤ v6
          · have hF := (if_pos c7).symm.trans hF
            exact fr_X12_feed_J76 hnx23 hF
          · have hF := (if_neg c7).symm.trans hF
            exact fr_X12_feed_J76 hnx23 hF
        · have hF := (if_neg c6).symm.trans hF
          exact fr_X12_feed_J76 hnx23 hF
      · have hF := (if_neg c5).symm.trans hF
        exact fr_X12_feed_J76 hnx23 hF
    · have hF := (if_neg c4).symm.trans hF
      exact fr_X12_feed_J76 hnx23 hF
theorem fr_X12_feed {N : Nat} {v1 : Int} {v2 : Int} {v3 : Int} {v4 : Int} {v5 : Int} {σ : Sto} {res : Int × Sto} (hF : F_X12_feed N v1 v2 v3 v4 v5 σ = some res) : Fr (Wr_X12_feed) σ res.2 := by
  unfold F_X12_feed at hF
  by_cases c1 : (ja ((upI σ 94 2 0).1 94 1) 20) ≤ 700
  · have hF := (if_pos c1).symm.trans hF
    exact Fr_tr (Fr_up Fr.rf (by unfold Wr_X12_feed; omega)) (loopK_ind (res := res) (P := fun (q : Int × Sto) => Fr (Wr_X12_feed) q.2 res.2) (fun nx q hn hF => fr_X12_feed_B23 hn hF) N _ hF)
  · have hF := (if_neg c1).symm.trans hF
    obtain rfl := Option.some.inj hF
    exact (Fr_up Fr.rf (by unfold Wr_X12_feed; omega))
def Wr_X12_wrong (a : Nat) (j : Int) : Prop := (a = 94 ∧ j = 4) ∨ (a = 94 ∧ j = 5)
theorem fr_X12_wrong {N : Nat} {v1 : Int} {σ : Sto} {res : Int × Sto} (hF : F_X12_wrong N v1 σ = some res) : Fr (Wr_X12_wrong) σ res.2 := by
  unfold F_X12_wrong at hF
  obtain rfl := Option.some.inj hF
  exact (Fr_up (Fr_up Fr.rf (by unfold Wr_X12_wrong; omega)) (by unfold Wr_X12_wrong; omega))
def Wr_X12_token (a : Nat) (j : Int) : Prop := (a = 94 ∧ j = 10) ∨ (a = 94 ∧ j = 7) ∨ (a = 94 ∧ j = 8) ∨ (a = 94 ∧ j = 9)
theorem fr_X12_token_J352 {N : Nat}    {σ : Sto} {res : Sto} (hF : F_X12_token_J352 N   σ = some res) : Fr (Wr_X12_token) σ res := by
  unfold F_X12_token_J352 at hF
  by_cases c4 : (σ.1 94 8) = 6
  · have hF := (if_pos c4).symm.trans hF
    obtain rfl := Option.some.inj hF
    exact (Fr_up Fr.rf (by unfold Wr_X12_token; omega))
  · have hF := (if_neg c4).symm.trans hF
    obtain rfl := Option.some.inj hF
    exact Fr.rf
theorem fr_X12_token_J336 {N : Nat}  {nx288 : (Sto) → Option (Sto)} {t1 : Int} {σ : Sto} {res : Sto} (hnx288 : ∀ q, nx288 q = some res → Fr (Wr_X12_token) q res) (hF : F_X12_token_J336 N nx288 t1 σ = some res) : Fr (Wr_X12_token) σ res := by
  unfold F_X12_token_J336 at hF
  exact Fr_tr (Fr_up (Fr_up Fr.rf (by unfold Wr_X12_token; omega)) (by unfold Wr_X12_token; omega)) (hnx288 _ hF)
theorem fr_X12_token_B288 {N : Nat}  {nx288 : (Sto) → Option (Sto)}  {σ : Sto} {res : Sto} (hnx288 : ∀ q, nx288 q = some res → Fr (Wr_X12_token) q res) (hF : F_X12_token_B288 N nx288  σ = some res) : Fr (Wr_X12_token) σ res := by
  unfold F_X12_token_B288 at hF
  obtain ⟨q5, eq5, hF⟩ := bind_some' hF
  by_cases c6 : q5 = 0
  · have hF := (if_pos c6).symm.trans hF
    exact fr_X12_token_J352  hF
  · have hF := (if_neg c6).symm.trans hF
    by_cases c7 : (σ.1 94 9) ≤ 99999
    · have hF := (if_pos c7).symm.trans hF
      obtain ⟨b8, hF⟩ := inb_some hF
      exact fr_X12_token_J336 hnx288 hF
    · have hF := (if_neg c7).symm.trans hF
      exact fr_X12_token_J336 hnx288 hF
theorem fr_X12_token_J283 {N : Nat}    {σ : Sto} {res : Sto} (hF : F_X12_token_J283 N   σ = some res) : Fr (Wr_X12_token) σ res := by
  unfold F_X12_token_J283 at hF
  exact Fr_tr (Fr_up Fr.rf (by unfold Wr_X12_token; omega)) (loopK_ind (res := res) (P := fun (q : Sto) => Fr (Wr_X12_token) q res) (fun nx q hn hF => fr_X12_token_B288 hn hF) N _ hF)
theorem fr_X12_token_J261 {N : Nat}   {t1 : Int} {σ : Sto} {res : Sto} (hF : F_X12_token_J261 N  t1 σ = some res) : Fr (Wr_X12_token) σ res := by
  unfold F_X12_token_J261 at hF
  by_cases c9 : ((upI σ 94 8 t1).1 94 8) = 6
  · have hF := (if_pos c9).symm.trans hF
    exact Fr_tr (Fr_up (Fr_up Fr.rf (by unfold Wr_X12_token; omega)) (by unfold Wr_X12_token; omega)) (fr_X12_token_J283  hF)
  · have hF := (if_neg c9).symm.trans hF
    exact Fr_tr (Fr_up Fr.rf (by unfold Wr_X12_token; omega)) (fr_X12_token_J283  hF)
theorem fr_X12_token_J240 {N : Nat}    {σ : Sto} {res : Sto} (hF : F_X12_token_J240 N   σ = some res) : Fr (Wr_X12_token) σ res := by
  unfold F_X12_token_J240 at hF
  obtain ⟨b10, hF⟩ := inb_some hF
  by_cases c11 : (σ.1 95 (σ.1 94 7)) = 45
  · have hF := (if_pos c11).symm.trans hF
    exact fr_X12_token_J261  hF
  · have hF := (if_neg c11).symm.trans hF
    exact fr_X12_token_J261  hF
theorem fr_X12_token_J393 {N : Nat}   {t1 : Int} {σ : Sto} {res : Sto} (hF : F_X12_token_J393 N  t1 σ = some res) : Fr (Wr_X12_token) σ res := by
  unfold F_X12_token_J393 at hF
  obtain rfl := Option.some.inj hF
  exact (Fr_up (Fr_up Fr.rf (by unfold Wr_X12_token; omega)) (by unfold Wr_X12_token; omega))
theorem fr_X12_token_J373 {N : Nat}    {σ : Sto} {res : Sto} (hF : F_X12_token_J373 N   σ = some res) : Fr (Wr_X12_token) σ res := by
  unfold F_X12_token_J373 at hF
  obtain ⟨b14, hF⟩ := inb_some hF
  by_cases c15 : (σ.1 95 (σ.1 94 7)) = 59
  · have hF := (if_pos c15).symm.trans hF
    exact fr_X12_token_J393  hF
  · have hF := (if_neg c15).symm.trans hF
    exact fr_X12_token_J393  hF
theorem fr_X12_token_J161 {N : Nat}   {t1 : Int} {σ : Sto} {res : Sto} (hF : F_X12_token_J161 N  t1 σ = some res) : Fr (Wr_X12_token) σ res := by
  unfold F_X12_token_J161 at hF
  by_cases c21 : ((upI σ 94 8 t1).1 94 8) = 2
  · have hF := (if_pos c21).symm.trans hF
    obtain ⟨q22, eq22, hF⟩ := bind_some' hF
    obtain rfl := Option.some.inj hF
    exact (Fr_up (Fr_up Fr.rf (by unfold Wr_X12_token; omega)) (by unfold Wr_X12_token; omega))
  · have hF := (if_neg c21).symm.trans hF
    obtain rfl := Option.some.inj hF
    exact (Fr_up Fr.rf (by unfold Wr_X12_token; omega))
theorem fr_X12_token_J114 {N : Nat}    {σ : Sto} {res : Sto} (hF : F_X12_token_J114 N   σ = some res) : Fr (Wr_X12_token) σ res := by
  unfold F_X12_token_J114 at hF
  obtain ⟨q23, eq23, hF⟩ := bind_some' hF
  by_cases c24 : ((upI σ 94 9 q23).1 94 9) < 0
  · have hF := (if_pos c24).symm.trans hF
    by_cases c25 : (js ((upI σ 94 9 q23).1 94 7) ((upI σ 94 9 q23).1 94 10)) ≤ 6
    · have hF := (if_pos c25).symm.trans hF
      exact Fr_tr (Fr_up Fr.rf (by unfold Wr_X12_token; omega)) (fr_X12_token_J161  hF)
    · have hF := (if_neg c25).symm.trans hF
      exact Fr_tr (Fr_up Fr.rf (by unfold Wr_X12_token; omega)) (fr_X12_token_J161  hF)
  · have hF := (if_neg c24).symm.trans hF
    exact Fr_tr (Fr_up Fr.rf (by unfold Wr_X12_token; omega)) (fr_X12_token_J161  hF)
theorem fr_X12_token_B90 {N : Nat}  {nx90 : (Sto) → Option (Sto)}  {σ : Sto} {res : Sto} (hnx90 : ∀ q, nx90 q = some res → Fr (Wr_X12_token) q res) (hF : F_X12_token_B90 N nx90  σ = some res) : Fr (Wr_X12_token) σ res := by
  unfold F_X12_token_B90 at hF
  obtain ⟨q26, eq26, hF⟩ := bind_some' hF
  by_cases c27 : q26 = 0
  · have hF := (if_pos c27).symm.trans hF
    exact fr_X12_token_J114  hF
  · have hF := (if_neg c27).symm.trans hF
    exact Fr_tr (Fr_up Fr.rf (by unfold Wr_X12_token; omega)) (hnx90 _ hF)
theorem fr_X12_token_J52 {N : Nat}    {σ : Sto} {res : Sto} (hF : F_X12_token_J52 N   σ = some res) : Fr (Wr_X12_token) σ res := by
  unfold F_X12_token_J52 at hF
  by_cases c1 : ((upI σ 94 10 (σ.1 94 7)).1 94 7) = ((upI σ 94 10 (σ.1 94 7)).1 94 6)
  · have hF := (if_pos c1).symm.trans hF
    obtain rfl := Option.some.inj hF
    exact (Fr_up (Fr_up Fr.rf (by unfold Wr_X12_token; omega)) (by unfold Wr_X12_token; omega))
  · have hF := (if_neg c1).symm.trans hF
    obtain ⟨q2, eq2, hF⟩ := bind_some' hF
    by_cases c3 : q2 = 0
    · have hF := (if_pos c3).symm.trans hF
      obtain ⟨q12, eq12, hF⟩ := bind_some' hF
      by_cases c13 : q12 = 0
      · have hF := (if_pos c13).symm.trans hF
        by_cases c16 : ((upI σ 94 10 (σ.1 94 7)).1 94 6) ≤ ((upI σ 94 10 (σ.1 94 7)).1 94 7)
        · have hF := (if_pos c16).symm.trans hF
          exact Fr_tr (Fr_up Fr.rf (by unfold Wr_X12_token; omega)) (fr_X12_token_J373  hF)
        · have hF := (if_neg c16).symm.trans hF
          obtain ⟨b17, hF⟩ := inb_some hF
          by_cases c18 : ((upI σ 94 10 (σ.1 94 7)).1 95 ((upI σ 94 10 (σ.1 94 7)).1 94 7)) = 45
          · have hF := (if_pos c18).symm.trans hF
            obtain ⟨q19, eq19, hF⟩ := bind_some' hF
            by_cases c20 : q19 = 0
            · have hF := (if_pos c20).symm.trans hF
              exact Fr_tr (Fr_up Fr.rf (by unfold Wr_X12_token; omega)) (fr_X12_token_J373  hF)
            · have hF := (if_neg c20).symm.trans hF
              exact Fr_tr (Fr_up Fr.rf (by unfold Wr_X12_token; omega)) (fr_X12_token_J240  hF)
          · have hF := (if_neg c18).symm.trans hF
            exact Fr_tr (Fr_up Fr.rf (by unfold Wr_X12_token; omega)) (fr_X12_token_J373  hF)
      · have hF := (if_neg c13).symm.trans hF
        exact Fr_tr (Fr_up Fr.rf (by unfold Wr_X12_token; omega)) (fr_X12_token_J240  hF)
    · have hF := (if_neg c3).symm.trans hF
      exact Fr_tr (Fr_up Fr.rf (by unfold Wr_X12_token; omega)) (loopK_ind (res := res) (P := fun (q : Sto) => Fr (Wr_X12_token) q res) (fun nx q hn hF => fr_X12_token_B90 hn hF) N _ hF)
theorem fr_X12_token_J39 {N : Nat}  {nx0 : (Sto) → Option (Sto)}  {σ : Sto} {res : Sto} (hnx0 : ∀ q, nx0 q = some res → Fr (Wr_X12_token) q res) (hF : F_X12_token_J39 N nx0  σ = some res) : Fr (Wr_X12_token) σ res := by
  unfold F_X12_token_J39 at hF
  exact Fr_tr (Fr_up Fr.rf (by unfold Wr_X12_token; omega)) (hnx0 _ hF)
theorem fr_X12_token_B0 {N : Nat}  {nx0 : (Sto) → Option (Sto)}  {σ : Sto} {res : Sto} (hnx0 : ∀ q, nx0 q = some res → Fr (Wr_X12_token) q res) (hF : F_X12_token_B0 N nx0  σ = some res) : Fr (Wr_X12_token) σ res := by
  unfold F_X12_token_B0 at hF
  by_cases c28 : (σ.1 94 6) ≤ (σ.1 94 7)
  · have hF := (if_pos c28).symm.trans hF
    exact fr_X12_token_J52  hF
  · have hF := (if_neg c28).symm.trans hF
    obtain ⟨b29, hF⟩ := inb_some hF
    by_cases c30 : (σ.1 95 (σ.1 94 7)) = 10
    · have hF := (if_pos c30).symm.trans hF
      exact fr_X12_token_J39 hnx0 hF
    · have hF := (if_neg c30).symm.trans hF
      by_cases c31 : (σ.1 95 (σ.1 94 7)) = 32
      · have hF := (if_pos c31).symm.trans hF
        exact fr_X12_token_J39 hnx0 hF
      · have hF := (if_neg c31).symm.trans hF
        exact fr_X12_token_J52  hF
theorem fr_X12_token {N : Nat}  {σ : Sto} {res : Sto} (hF : F_X12_token N  σ = some res) : Fr (Wr_X12_token) σ res := by
  unfold F_X12_token at hF
  exact (loopK_ind (res := res) (P := fun (q : Sto) => Fr (Wr_X12_token) q res) (fun nx q hn hF => fr_X12_token_B0 hn hF) N _ hF)
def Wr_X12_plain (a : Nat) (j : Int) : Prop := (a = 100) ∨ (a = 94 ∧ j = 12) ∨ (a = 94 ∧ j = 15) ∨ (a = 94 ∧ j = 18) ∨ (a = 94 ∧ j = 21)
theorem fr_X12_plain {N : Nat}  {σ : Sto} {res : Sto} (hF : F_X12_plain N  σ = some res) : Fr (Wr_X12_plain) σ res := by
  unfold F_X12_plain at hF
  obtain ⟨b1, hF⟩ := inb_some hF
  obtain ⟨b2, hF⟩ := inb_some hF
  obtain ⟨b3, hF⟩ := inb_some hF
  obtain ⟨b4, hF⟩ := inb_some hF
  obtain rfl := Option.some.inj hF
  exact (Fr_up (Fr_up (Fr_up (Fr_up (Fr_up (Fr_up (Fr_up (Fr_up Fr.rf (by unfold Wr_X12_plain; omega)) (by unfold Wr_X12_plain; omega)) (by unfold Wr_X12_plain; omega)) (by unfold Wr_X12_plain; omega)) (by unfold Wr_X12_plain; omega)) (by unfold Wr_X12_plain; omega)) (by unfold Wr_X12_plain; omega)) (by unfold Wr_X12_plain; omega))
def Wr_X12_copies (v0 : Nat) (a : Nat) (j : Int) : Prop := (a = v0)
theorem fr_X12_copies_B2 {N : Nat}  {nx2 : (Int × Sto) → Option (Sto)} {v0 : Nat} {v1 : Int} {v2 : Int} {σ : Sto} {res : Sto} (hnx2 : ∀ q, nx2 q = some res → Fr (Wr_X12_copies v0) q.2 res) (hF : F_X12_copies_B2 N nx2 v0 v1 v2 σ = some res) : Fr (Wr_X12_copies v0) σ res := by
  unfold F_X12_copies_B2 at hF
  by_cases c1 : v1 ≤ v2
  · have hF := (if_pos c1).symm.trans hF
    obtain rfl := Option.some.inj hF
    exact Fr.rf
  · have hF := (if_neg c1).symm.trans hF
    obtain ⟨b2, hF⟩ := inb_some hF
    obtain ⟨b3, hF⟩ := inb_some hF
    exact Fr_tr (Fr_up Fr.rf (by unfold Wr_X12_copies; omega)) (hnx2 _ hF)
theorem fr_X12_copies {N : Nat} {v0 : Nat} {v1 : Int} {σ : Sto} {res : Sto} (hF : F_X12_copies N v0 v1 σ = some res) : Fr (Wr_X12_copies v0) σ res := by
  unfold F_X12_copies at hF
  exact (loopK_ind (res := res) (P := fun (q : Int × Sto) => Fr (Wr_X12_copies v0) q.2 res) (fun nx q hn hF => fr_X12_copies_B2 hn hF) N _ hF)
def Wr_X12_lay (a : Nat) (j : Int) : Prop := (a = 101)
theorem fr_X12_lay {N : Nat} {v1 : Int} {v2 : Int} {σ : Sto} {res : Sto} (hF : F_X12_lay N v1 v2 σ = some res) : Fr (Wr_X12_lay) σ res := by
  unfold F_X12_lay at hF
  obtain ⟨b1, hF⟩ := inb_some hF
  obtain rfl := Option.some.inj hF
  exact (Fr_up Fr.rf (by unfold Wr_X12_lay; omega))
def Wr_X12_keepText (a : Nat) (j : Int) : Prop := ((97 ≤ a ∧ a ≤ 101)) ∨ (a = 94 ∧ j = 11) ∨ (a = 94 ∧ j = 14) ∨ (a = 94 ∧ j = 17) ∨ (a = 94 ∧ j = 24) ∨ (a = 94 ∧ j = 25) ∨ (a = 94 ∧ j = 26) ∨ (a = 94 ∧ j = 33)
theorem fr_X12_keepText_B136 {N : Nat}  {nx136 : (Int × Sto) → Option (Sto)} {v1 : Int} {σ : Sto} {res : Sto} (hnx136 : ∀ q, nx136 q = some res → Fr (Wr_X12_keepText) q.2 res) (hF : F_X12_keepText_B136 N nx136 v1 σ = some res) : Fr (Wr_X12_keepText) σ res := by
  unfold F_X12_keepText_B136 at hF
  by_cases c8 : (jm 4 (σ.1 94 17)) ≤ v1
  · have hF := (if_pos c8).symm.trans hF
    obtain rfl := Option.some.inj hF
    exact Fr.rf
  · have hF := (if_neg c8).symm.trans hF
    obtain ⟨b9, hF⟩ := inb_some hF
    obtain ⟨q10, eq10, hF⟩ := bind_some' hF
    exact Fr_tr (Fr_tr Fr.rf (Fr_mono (fr_X12_lay eq10) (fun a j h => by unfold Wr_X12_lay at h; unfold Wr_X12_keepText; omega))) (hnx136 _ hF)
theorem fr_X12_keepText_J134 {N : Nat}    {σ : Sto} {res : Sto} (hF : F_X12_keepText_J134 N   σ = some res) : Fr (Wr_X12_keepText) σ res := by
  unfold F_X12_keepText_J134 at hF
  exact (loopK_ind (res := res) (P := fun (q : Int × Sto) => Fr (Wr_X12_keepText) q.2 res) (fun nx q hn hF => fr_X12_keepText_B136 hn hF) N _ hF)
theorem fr_X12_keepText_B102 {N : Nat}  {nx102 : (Int × Sto) → Option (Sto)} {v1 : Int} {σ : Sto} {res : Sto} (hnx102 : ∀ q, nx102 q = some res → Fr (Wr_X12_keepText) q.2 res) (hF : F_X12_keepText_B102 N nx102 v1 σ = some res) : Fr (Wr_X12_keepText) σ res := by
  unfold F_X12_keepText_B102 at hF
  by_cases c11 : (σ.1 94 14) ≤ v1
  · have hF := (if_pos c11).symm.trans hF
    exact fr_X12_keepText_J134  hF
  · have hF := (if_neg c11).symm.trans hF
    obtain ⟨b12, hF⟩ := inb_some hF
    obtain ⟨q13, eq13, hF⟩ := bind_some' hF
    exact Fr_tr (Fr_tr Fr.rf (Fr_mono (fr_X12_lay eq13) (fun a j h => by unfold Wr_X12_lay at h; unfold Wr_X12_keepText; omega))) (hnx102 _ hF)
theorem fr_X12_keepText {N : Nat}  {σ : Sto} {res : Sto} (hF : F_X12_keepText N  σ = some res) : Fr (Wr_X12_keepText) σ res := by
  unfold F_X12_keepText at hF
  obtain ⟨q1, eq1, hF⟩ := bind_some' hF
  obtain ⟨q2, eq2, hF⟩ := bind_some' hF
  obtain ⟨q3, eq3, hF⟩ := bind_some' hF
  obtain ⟨q4, eq4, hF⟩ := bind_some' hF
  obtain ⟨b5, hF⟩ := inb_some hF
  obtain ⟨q6, eq6, hF⟩ := bind_some' hF
  obtain ⟨q7, eq7, hF⟩ := bind_some' hF
  exact Fr_tr (Fr_tr (Fr_tr (Fr_up (Fr_up (Fr_up (Fr_up (Fr_tr (Fr_tr (Fr_tr (Fr_tr (Fr_up (Fr_up (Fr_up Fr.rf (by unfold Wr_X12_keepText; omega)) (by unfold Wr_X12_keepText; omega)) (by unfold Wr_X12_keepText; omega)) (Fr_mono (fr_X12_copies eq1) (fun a j h => by unfold Wr_X12_copies at h; unfold Wr_X12_keepText; omega))) (Fr_mono (fr_X12_copies eq2) (fun a j h => by unfold Wr_X12_copies at h; unfold Wr_X12_keepText; omega))) (Fr_mono (fr_X12_copies eq3) (fun a j h => by unfold Wr_X12_copies at h; unfold Wr_X12_keepText; omega))) (Fr_mono (fr_X12_copies eq4) (fun a j h => by unfold Wr_X12_copies at h; unfold Wr_X12_keepText; omega))) (by unfold Wr_X12_keepText; omega)) (by unfold Wr_X12_keepText; omega)) (by unfold Wr_X12_keepText; omega)) (by unfold Wr_X12_keepText; omega)) (Fr_mono (fr_X12_lay eq6) (fun a j h => by unfold Wr_X12_lay at h; unfold Wr_X12_keepText; omega))) (Fr_mono (fr_X12_lay eq7) (fun a j h => by unfold Wr_X12_lay at h; unfold Wr_X12_keepText; omega))) (loopK_ind (res := res) (P := fun (q : Int × Sto) => Fr (Wr_X12_keepText) q.2 res) (fun nx q hn hF => fr_X12_keepText_B102 hn hF) N _ hF)
def Wr_X12_signed (a : Nat) (j : Int) : Prop := (a = 94 ∧ j = 10) ∨ (a = 94 ∧ j = 22) ∨ (a = 94 ∧ j = 4) ∨ (a = 94 ∧ j = 5) ∨ (a = 94 ∧ j = 7) ∨ (a = 94 ∧ j = 8) ∨ (a = 94 ∧ j = 9)
theorem fr_X12_signed_J23 {N : Nat}   {v1 : Int} {v2 : Int} {σ : Sto} {res : Int × Sto} (hF : F_X12_signed_J23 N  v1 v2 σ = some res) : Fr (Wr_X12_signed) σ res.2 := by
  unfold F_X12_signed_J23 at hF
  obtain ⟨q1, eq1, hF⟩ := bind_some' hF
  by_cases c2 : q1 = 0
  · have hF := (if_pos c2).symm.trans hF
    obtain ⟨q4, eq4, hF⟩ := bind_some' hF
    obtain rfl := Option.some.inj hF
    exact (Fr_tr Fr.rf (Fr_mono (fr_X12_wrong eq4) (fun a j h => by unfold Wr_X12_wrong at h; unfold Wr_X12_signed; omega)))
  · have hF := (if_neg c2).symm.trans hF
    obtain ⟨q3, eq3, hF⟩ := bind_some' hF
    obtain rfl := Option.some.inj hF
    exact (Fr_tr (Fr_up Fr.rf (by unfold Wr_X12_signed; omega)) (Fr_mono (fr_X12_token eq3) (fun a j h => by unfold Wr_X12_token at h; unfold Wr_X12_signed; omega)))
theorem fr_X12_signed {N : Nat} {v1 : Int} {v2 : Int} {σ : Sto} {res : Int × Sto} (hF : F_X12_signed N v1 v2 σ = some res) : Fr (Wr_X12_signed) σ res.2 := by
  unfold F_X12_signed at hF
  by_cases c5 : (σ.1 94 8) = 3
  · have hF := (if_pos c5).symm.trans hF
    exact fr_X12_signed_J23  hF
  · have hF := (if_neg c5).symm.trans hF
    by_cases c6 : (σ.1 94 8) = 6
    · have hF := (if_pos c6).symm.trans hF
      exact fr_X12_signed_J23  hF
    · have hF := (if_neg c6).symm.trans hF
      obtain ⟨q7, eq7, hF⟩ := bind_some' hF
      obtain rfl := Option.some.inj hF
      exact (Fr_tr Fr.rf (Fr_mono (fr_X12_wrong eq7) (fun a j h => by unfold Wr_X12_wrong at h; unfold Wr_X12_signed; omega)))
def Wr_X12_number (a : Nat) (j : Int) : Prop := (a = 94 ∧ j = 10) ∨ (a = 94 ∧ j = 22) ∨ (a = 94 ∧ j = 4) ∨ (a = 94 ∧ j = 5) ∨ (a = 94 ∧ j = 7) ∨ (a = 94 ∧ j = 8) ∨ (a = 94 ∧ j = 9)
theorem fr_X12_number {N : Nat} {v1 : Int} {v2 : Int} {σ : Sto} {res : Int × Sto} (hF : F_X12_number N v1 v2 σ = some res) : Fr (Wr_X12_number) σ res.2 := by
  unfold F_X12_number at hF
  by_cases c1 : (σ.1 94 8) = 3
  · have hF := (if_pos c1).symm.trans hF
    obtain ⟨q3, eq3, hF⟩ := bind_some' hF
    obtain rfl := Option.some.inj hF
    exact (Fr_tr Fr.rf (Fr_mono (fr_X12_signed eq3) (fun a j h => by unfold Wr_X12_signed at h; unfold Wr_X12_number; omega)))
  · have hF := (if_neg c1).symm.trans hF
    obtain ⟨q2, eq2, hF⟩ := bind_some' hF
    obtain rfl := Option.some.inj hF
    exact (Fr_tr Fr.rf (Fr_mono (fr_X12_wrong eq2) (fun a j h => by unfold Wr_X12_wrong at h; unfold Wr_X12_number; omega)))
def Wr_X12_memberRead (a : Nat) (j : Int) : Prop := (a = 94 ∧ j = 10) ∨ (a = 94 ∧ j = 22) ∨ (a = 94 ∧ j = 4) ∨ (a = 94 ∧ j = 5) ∨ (a = 94 ∧ j = 7) ∨ (a = 94 ∧ j = 8) ∨ (a = 94 ∧ j = 9)
theorem fr_X12_memberRead_J51 {N : Nat}    {σ : Sto} {res : Int × Sto} (hF : F_X12_memberRead_J51 N   σ = some res) : Fr (Wr_X12_memberRead) σ res.2 := by
  unfold F_X12_memberRead_J51 at hF
  obtain rfl := Option.some.inj hF
  exact Fr.rf
theorem fr_X12_memberRead {N : Nat}  {σ : Sto} {res : Int × Sto} (hF : F_X12_memberRead N  σ = some res) : Fr (Wr_X12_memberRead) σ res.2 := by
  unfold F_X12_memberRead at hF
  obtain ⟨q1, eq1, hF⟩ := bind_some' hF
  by_cases c2 : (q1.1 94 8) = 2
  · have hF := (if_pos c2).symm.trans hF
    obtain ⟨q3, eq3, hF⟩ := bind_some' hF
    by_cases c4 : 0 ≤ ((upI q1 94 22 q3).1 94 22)
    · have hF := (if_pos c4).symm.trans hF
      exact Fr_tr (Fr_up (Fr_tr Fr.rf (Fr_mono (fr_X12_token eq1) (fun a j h => by unfold Wr_X12_token at h; unfold Wr_X12_memberRead; omega))) (by unfold Wr_X12_memberRead; omega)) (fr_X12_memberRead_J51  hF)
    · have hF := (if_neg c4).symm.trans hF
      obtain ⟨q5, eq5, hF⟩ := bind_some' hF
      by_cases c6 : q5.1 = 0
      · have hF := (if_pos c6).symm.trans hF
        obtain rfl := Option.some.inj hF
        exact (Fr_tr (Fr_up (Fr_tr Fr.rf (Fr_mono (fr_X12_token eq1) (fun a j h => by unfold Wr_X12_token at h; unfold Wr_X12_memberRead; omega))) (by unfold Wr_X12_memberRead; omega)) (Fr_mono (fr_X12_wrong eq5) (fun a j h => by unfold Wr_X12_wrong at h; unfold Wr_X12_memberRead; omega)))
      · have hF := (if_neg c6).symm.trans hF
        exact Fr_tr (Fr_tr (Fr_up (Fr_tr Fr.rf (Fr_mono (fr_X12_token eq1) (fun a j h => by unfold Wr_X12_token at h; unfold Wr_X12_memberRead; omega))) (by unfold Wr_X12_memberRead; omega)) (Fr_mono (fr_X12_wrong eq5) (fun a j h => by unfold Wr_X12_wrong at h; unfold Wr_X12_memberRead; omega))) (fr_X12_memberRead_J51  hF)
  · have hF := (if_neg c2).symm.trans hF
    obtain ⟨q7, eq7, hF⟩ := bind_some' hF
    obtain rfl := Option.some.inj hF
    exact (Fr_tr (Fr_tr Fr.rf (Fr_mono (fr_X12_token eq1) (fun a j h => by unfold Wr_X12_token at h; unfold Wr_X12_memberRead; omega))) (Fr_mono (fr_X12_wrong eq7) (fun a j h => by unfold Wr_X12_wrong at h; unfold Wr_X12_memberRead; omega)))
def Wr_X12_memberLine (a : Nat) (j : Int) : Prop := (a = 97) ∨ (a = 94 ∧ j = 10) ∨ (a = 94 ∧ j = 12) ∨ (a = 94 ∧ j = 22) ∨ (a = 94 ∧ j = 4) ∨ (a = 94 ∧ j = 5) ∨ (a = 94 ∧ j = 7) ∨ (a = 94 ∧ j = 8) ∨ (a = 94 ∧ j = 9)
theorem fr_X12_memberLine {N : Nat}  {σ : Sto} {res : Int × Sto} (hF : F_X12_memberLine N  σ = some res) : Fr (Wr_X12_memberLine) σ res.2 := by
  unfold F_X12_memberLine at hF
  by_cases c1 : (σ.1 94 12) = 8
  · have hF := (if_pos c1).symm.trans hF
    obtain ⟨q16, eq16, hF⟩ := bind_some' hF
    obtain rfl := Option.some.inj hF
    exact (Fr_tr Fr.rf (Fr_mono (fr_X12_wrong eq16) (fun a j h => by unfold Wr_X12_wrong at h; unfold Wr_X12_memberLine; omega)))
  · have hF := (if_neg c1).symm.trans hF
    obtain ⟨q2, eq2, hF⟩ := bind_some' hF
    by_cases c3 : (q2.1 94 8) = 2
    · have hF := (if_pos c3).symm.trans hF
      obtain ⟨q4, eq4, hF⟩ := bind_some' hF
      by_cases c5 : q4 < 0
      · have hF := (if_pos c5).symm.trans hF
        obtain ⟨b6, hF⟩ := inb_some hF
        obtain ⟨q7, eq7, hF⟩ := bind_some' hF
        obtain ⟨q8, eq8, hF⟩ := bind_some' hF
        by_cases c9 : q8.1 = 0
        · have hF := (if_pos c9).symm.trans hF
          obtain rfl := Option.some.inj hF
          exact (Fr_tr (Fr_tr (Fr_up (Fr_tr Fr.rf (Fr_mono (fr_X12_token eq2) (fun a j h => by unfold Wr_X12_token at h; unfold Wr_X12_memberLine; omega))) (by unfold Wr_X12_memberLine; omega)) (Fr_mono (fr_X12_token eq7) (fun a j h => by unfold Wr_X12_token at h; unfold Wr_X12_memberLine; omega))) (Fr_mono (fr_X12_number eq8) (fun a j h => by unfold Wr_X12_number at h; unfold Wr_X12_memberLine; omega)))
        · have hF := (if_neg c9).symm.trans hF
          obtain ⟨b10, hF⟩ := inb_some hF
          obtain ⟨q11, eq11, hF⟩ := bind_some' hF
          by_cases c12 : q11.1 = 0
          · have hF := (if_pos c12).symm.trans hF
            obtain rfl := Option.some.inj hF
            exact (Fr_tr (Fr_up (Fr_tr (Fr_tr (Fr_up (Fr_tr Fr.rf (Fr_mono (fr_X12_token eq2) (fun a j h => by unfold Wr_X12_token at h; unfold Wr_X12_memberLine; omega))) (by unfold Wr_X12_memberLine; omega)) (Fr_mono (fr_X12_token eq7) (fun a j h => by unfold Wr_X12_token at h; unfold Wr_X12_memberLine; omega))) (Fr_mono (fr_X12_number eq8) (fun a j h => by unfold Wr_X12_number at h; unfold Wr_X12_memberLine; omega))) (by unfold Wr_X12_memberLine; omega)) (Fr_mono (fr_X12_number eq11) (fun a j h => by unfold Wr_X12_number at h; unfold Wr_X12_memberLine; omega)))
          · have hF := (if_neg c12).symm.trans hF
            obtain ⟨b13, hF⟩ := inb_some hF
            obtain rfl := Option.some.inj hF
            exact (Fr_up (Fr_up (Fr_tr (Fr_up (Fr_tr (Fr_tr (Fr_up (Fr_tr Fr.rf (Fr_mono (fr_X12_token eq2) (fun a j h => by unfold Wr_X12_token at h; unfold Wr_X12_memberLine; omega))) (by unfold Wr_X12_memberLine; omega)) (Fr_mono (fr_X12_token eq7) (fun a j h => by unfold Wr_X12_token at h; unfold Wr_X12_memberLine; omega))) (Fr_mono (fr_X12_number eq8) (fun a j h => by unfold Wr_X12_number at h; unfold Wr_X12_memberLine; omega))) (by unfold Wr_X12_memberLine; omega)) (Fr_mono (fr_X12_number eq11) (fun a j h => by unfold Wr_X12_number at h; unfold Wr_X12_memberLine; omega))) (by unfold Wr_X12_memberLine; omega)) (by unfold Wr_X12_memberLine; omega))
      · have hF := (if_neg c5).symm.trans hF
        obtain ⟨q14, eq14, hF⟩ := bind_some' hF
        obtain rfl := Option.some.inj hF
        exact (Fr_tr (Fr_tr Fr.rf (Fr_mono (fr_X12_token eq2) (fun a j h => by unfold Wr_X12_token at h; unfold Wr_X12_memberLine; omega))) (Fr_mono (fr_X12_wrong eq14) (fun a j h => by unfold Wr_X12_wrong at h; unfold Wr_X12_memberLine; omega)))
    · have hF := (if_neg c3).symm.trans hF
      obtain ⟨q15, eq15, hF⟩ := bind_some' hF
      obtain rfl := Option.some.inj hF
      exact (Fr_tr (Fr_tr Fr.rf (Fr_mono (fr_X12_token eq2) (fun a j h => by unfold Wr_X12_token at h; unfold Wr_X12_memberLine; omega))) (Fr_mono (fr_X12_wrong eq15) (fun a j h => by unfold Wr_X12_wrong at h; unfold Wr_X12_memberLine; omega)))
def Wr_X12_ownsLine (a : Nat) (j : Int) : Prop := (a = 99) ∨ (a = 94 ∧ j = 10) ∨ (a = 94 ∧ j = 18) ∨ (a = 94 ∧ j = 22) ∨ (a = 94 ∧ j = 4) ∨ (a = 94 ∧ j = 5) ∨ (a = 94 ∧ j = 7) ∨ (a = 94 ∧ j = 8) ∨ (a = 94 ∧ j = 9)
theorem fr_X12_ownsLine {N : Nat}  {σ : Sto} {res : Int × Sto} (hF : F_X12_ownsLine N  σ = some res) : Fr (Wr_X12_ownsLine) σ res.2 := by
  unfold F_X12_ownsLine at hF
  by_cases c1 : (σ.1 94 18) = 16
  · have hF := (if_pos c1).symm.trans hF
    obtain ⟨q17, eq17, hF⟩ := bind_some' hF
    obtain rfl := Option.some.inj hF
    exact (Fr_tr Fr.rf (Fr_mono (fr_X12_wrong eq17) (fun a j h => by unfold Wr_X12_wrong at h; unfold Wr_X12_ownsLine; omega)))
  · have hF := (if_neg c1).symm.trans hF
    obtain ⟨q2, eq2, hF⟩ := bind_some' hF
    by_cases c3 : q2.1 = 0
    · have hF := (if_pos c3).symm.trans hF
      obtain rfl := Option.some.inj hF
      exact (Fr_tr Fr.rf (Fr_mono (fr_X12_memberRead eq2) (fun a j h => by unfold Wr_X12_memberRead at h; unfold Wr_X12_ownsLine; omega)))
    · have hF := (if_neg c3).symm.trans hF
      obtain ⟨b4, hF⟩ := inb_some hF
      obtain ⟨q5, eq5, hF⟩ := bind_some' hF
      by_cases c6 : q5.1 = 0
      · have hF := (if_pos c6).symm.trans hF
        obtain rfl := Option.some.inj hF
        exact (Fr_tr (Fr_up (Fr_tr Fr.rf (Fr_mono (fr_X12_memberRead eq2) (fun a j h => by unfold Wr_X12_memberRead at h; unfold Wr_X12_ownsLine; omega))) (by unfold Wr_X12_ownsLine; omega)) (Fr_mono (fr_X12_memberRead eq5) (fun a j h => by unfold Wr_X12_memberRead at h; unfold Wr_X12_ownsLine; omega)))
      · have hF := (if_neg c6).symm.trans hF
        by_cases c7 : (q5.2.1 99 (ja 64 (jm 4 (σ.1 94 18)))) < (q5.2.1 94 22)
        · have hF := (if_pos c7).symm.trans hF
          obtain ⟨b8, hF⟩ := inb_some hF
          obtain ⟨q9, eq9, hF⟩ := bind_some' hF
          obtain ⟨q10, eq10, hF⟩ := bind_some' hF
          by_cases c11 : q10.1 = 0
          · have hF := (if_pos c11).symm.trans hF
            obtain rfl := Option.some.inj hF
            exact (Fr_tr (Fr_tr (Fr_up (Fr_tr (Fr_up (Fr_tr Fr.rf (Fr_mono (fr_X12_memberRead eq2) (fun a j h => by unfold Wr_X12_memberRead at h; unfold Wr_X12_ownsLine; omega))) (by unfold Wr_X12_ownsLine; omega)) (Fr_mono (fr_X12_memberRead eq5) (fun a j h => by unfold Wr_X12_memberRead at h; unfold Wr_X12_ownsLine; omega))) (by unfold Wr_X12_ownsLine; omega)) (Fr_mono (fr_X12_token eq9) (fun a j h => by unfold Wr_X12_token at h; unfold Wr_X12_ownsLine; omega))) (Fr_mono (fr_X12_number eq10) (fun a j h => by unfold Wr_X12_number at h; unfold Wr_X12_ownsLine; omega)))
          · have hF := (if_neg c11).symm.trans hF
            obtain ⟨b12, hF⟩ := inb_some hF
            obtain ⟨q13, eq13, hF⟩ := bind_some' hF
            by_cases c14 : q13.1 = 0
            · have hF := (if_pos c14).symm.trans hF
              obtain rfl := Option.some.inj hF
              exact (Fr_tr (Fr_up (Fr_tr (Fr_tr (Fr_up (Fr_tr (Fr_up (Fr_tr Fr.rf (Fr_mono (fr_X12_memberRead eq2) (fun a j h => by unfold Wr_X12_memberRead at h; unfold Wr_X12_ownsLine; omega))) (by unfold Wr_X12_ownsLine; omega)) (Fr_mono (fr_X12_memberRead eq5) (fun a j h => by unfold Wr_X12_memberRead at h; unfold Wr_X12_ownsLine; omega))) (by unfold Wr_X12_ownsLine; omega)) (Fr_mono (fr_X12_token eq9) (fun a j h => by unfold Wr_X12_token at h; unfold Wr_X12_ownsLine; omega))) (Fr_mono (fr_X12_number eq10) (fun a j h => by unfold Wr_X12_number at h; unfold Wr_X12_ownsLine; omega))) (by unfold Wr_X12_ownsLine; omega)) (Fr_mono (fr_X12_number eq13) (fun a j h => by unfold Wr_X12_number at h; unfold Wr_X12_ownsLine; omega)))
            · have hF := (if_neg c14).symm.trans hF
              obtain ⟨b15, hF⟩ := inb_some hF
              obtain rfl := Option.some.inj hF
              exact (Fr_up (Fr_up (Fr_tr (Fr_up (Fr_tr (Fr_tr (Fr_up (Fr_tr (Fr_up (Fr_tr Fr.rf (Fr_mono (fr_X12_memberRead eq2) (fun a j h => by unfold Wr_X12_memberRead at h; unfold Wr_X12_ownsLine; omega))) (by unfold Wr_X12_ownsLine; omega)) (Fr_mono (fr_X12_memberRead eq5) (fun a j h => by unfold Wr_X12_memberRead at h; unfold Wr_X12_ownsLine; omega))) (by unfold Wr_X12_ownsLine; omega)) (Fr_mono (fr_X12_token eq9) (fun a j h => by unfold Wr_X12_token at h; unfold Wr_X12_ownsLine; omega))) (Fr_mono (fr_X12_number eq10) (fun a j h => by unfold Wr_X12_number at h; unfold Wr_X12_ownsLine; omega))) (by unfold Wr_X12_ownsLine; omega)) (Fr_mono (fr_X12_number eq13) (fun a j h => by unfold Wr_X12_number at h; unfold Wr_X12_ownsLine; omega))) (by unfold Wr_X12_ownsLine; omega)) (by unfold Wr_X12_ownsLine; omega))
        · have hF := (if_neg c7).symm.trans hF
          obtain ⟨q16, eq16, hF⟩ := bind_some' hF
          obtain rfl := Option.some.inj hF
          exact (Fr_tr (Fr_tr (Fr_up (Fr_tr Fr.rf (Fr_mono (fr_X12_memberRead eq2) (fun a j h => by unfold Wr_X12_memberRead at h; unfold Wr_X12_ownsLine; omega))) (by unfold Wr_X12_ownsLine; omega)) (Fr_mono (fr_X12_memberRead eq5) (fun a j h => by unfold Wr_X12_memberRead at h; unfold Wr_X12_ownsLine; omega))) (Fr_mono (fr_X12_wrong eq16) (fun a j h => by unfold Wr_X12_wrong at h; unfold Wr_X12_ownsLine; omega)))
def Wr_X12_periodLine (a : Nat) (j : Int) : Prop := (a = 98) ∨ (a = 94 ∧ j = 10) ∨ (a = 94 ∧ j = 15) ∨ (a = 94 ∧ j = 22) ∨ (a = 94 ∧ j = 4) ∨ (a = 94 ∧ j = 5) ∨ (a = 94 ∧ j = 7) ∨ (a = 94 ∧ j = 8) ∨ (a = 94 ∧ j = 9)
theorem fr_X12_periodLine_J183 {N : Nat}   {v1 : Int} {σ : Sto} {res : Int × Sto} (hF : F_X12_periodLine_J183 N  v1 σ = some res) : Fr (Wr_X12_periodLine) σ res.2 := by
  unfold F_X12_periodLine_J183 at hF
  obtain ⟨b12, hF⟩ := inb_some hF
  obtain ⟨q13, eq13, hF⟩ := bind_some' hF
  obtain ⟨q14, eq14, hF⟩ := bind_some' hF
  by_cases c15 : q14.1 = 0
  · have hF := (if_pos c15).symm.trans hF
    obtain rfl := Option.some.inj hF
    exact (Fr_tr (Fr_tr (Fr_up Fr.rf (by unfold Wr_X12_periodLine; omega)) (Fr_mono (fr_X12_token eq13) (fun a j h => by unfold Wr_X12_token at h; unfold Wr_X12_periodLine; omega))) (Fr_mono (fr_X12_signed eq14) (fun a j h => by unfold Wr_X12_signed at h; unfold Wr_X12_periodLine; omega)))
  · have hF := (if_neg c15).symm.trans hF
    obtain ⟨b16, hF⟩ := inb_some hF
    obtain rfl := Option.some.inj hF
    exact (Fr_up (Fr_up (Fr_tr (Fr_tr (Fr_up Fr.rf (by unfold Wr_X12_periodLine; omega)) (Fr_mono (fr_X12_token eq13) (fun a j h => by unfold Wr_X12_token at h; unfold Wr_X12_periodLine; omega))) (Fr_mono (fr_X12_signed eq14) (fun a j h => by unfold Wr_X12_signed at h; unfold Wr_X12_periodLine; omega))) (by unfold Wr_X12_periodLine; omega)) (by unfold Wr_X12_periodLine; omega))
theorem fr_X12_periodLine_J177 {N : Nat}  {nx117 : (Int) → Option (Int × Sto)} {v1 : Int} {v2 : Int} {σ : Sto} {res : Int × Sto} (hnx117 : ∀ q, nx117 q = some res → Fr (Wr_X12_periodLine) σ res.2) (hF : F_X12_periodLine_J177 N nx117 v1 v2 σ = some res) : Fr (Wr_X12_periodLine) σ res.2 := by
  unfold F_X12_periodLine_J177 at hF
  exact hnx117 _ hF
theorem fr_X12_periodLine_J171 {N : Nat}    {σ : Sto} {res : Int × Sto} (hF : F_X12_periodLine_J171 N   σ = some res) : Fr (Wr_X12_periodLine) σ res.2 := by
  unfold F_X12_periodLine_J171 at hF
  obtain ⟨q23, eq23, hF⟩ := bind_some' hF
  obtain rfl := Option.some.inj hF
  exact (Fr_tr Fr.rf (Fr_mono (fr_X12_wrong eq23) (fun a j h => by unfold Wr_X12_wrong at h; unfold Wr_X12_periodLine; omega)))
theorem fr_X12_periodLine_B117 {N : Nat}  {nx117 : (Int) → Option (Int × Sto)} {v1 : Int} {v2 : Int} {σ : Sto} {res : Int × Sto} (hnx117 : ∀ q, nx117 q = some res → Fr (Wr_X12_periodLine) σ res.2) (hF : F_X12_periodLine_B117 N nx117 v1 v2 σ = some res) : Fr (Wr_X12_periodLine) σ res.2 := by
  unfold F_X12_periodLine_B117 at hF
  by_cases c17 : v1 ≤ v2
  · have hF := (if_pos c17).symm.trans hF
    exact fr_X12_periodLine_J183  hF
  · have hF := (if_neg c17).symm.trans hF
    obtain ⟨b18, hF⟩ := inb_some hF
    obtain ⟨b19, hF⟩ := inb_some hF
    by_cases c20 : (σ.1 98 v2) = (σ.1 98 v1)
    · have hF := (if_pos c20).symm.trans hF
      obtain ⟨b21, hF⟩ := inb_some hF
      by_cases c22 : (σ.1 94 9) < (σ.1 98 (ja v2 1))
      · have hF := (if_pos c22).symm.trans hF
        exact fr_X12_periodLine_J177 hnx117 hF
      · have hF := (if_neg c22).symm.trans hF
        obtain ⟨b24, hF⟩ := inb_some hF
        obtain ⟨b25, hF⟩ := inb_some hF
        by_cases c26 : (σ.1 98 (ja v2 2)) < (σ.1 98 (ja v1 1))
        · have hF := (if_pos c26).symm.trans hF
          exact fr_X12_periodLine_J177 hnx117 hF
        · have hF := (if_neg c26).symm.trans hF
          exact fr_X12_periodLine_J171  hF
    · have hF := (if_neg c20).symm.trans hF
      exact fr_X12_periodLine_J177 hnx117 hF
theorem fr_X12_periodLine {N : Nat}  {σ : Sto} {res : Int × Sto} (hF : F_X12_periodLine N  σ = some res) : Fr (Wr_X12_periodLine) σ res.2 := by
  unfold F_X12_periodLine at hF
  by_cases c1 : (σ.1 94 15) = 12
  · have hF := (if_pos c1).symm.trans hF
    obtain ⟨q29, eq29, hF⟩ := bind_some' hF
    obtain rfl := Option.some.inj hF
    exact (Fr_tr Fr.rf (Fr_mono (fr_X12_wrong eq29) (fun a j h => by unfold Wr_X12_wrong at h; unfold Wr_X12_periodLine; omega)))
  · have hF := (if_neg c1).symm.trans hF
    obtain ⟨q2, eq2, hF⟩ := bind_some' hF
    by_cases c3 : q2.1 = 0
    · have hF := (if_pos c3).symm.trans hF
      obtain rfl := Option.some.inj hF
      exact (Fr_tr Fr.rf (Fr_mono (fr_X12_memberRead eq2) (fun a j h => by unfold Wr_X12_memberRead at h; unfold Wr_X12_periodLine; omega)))
    · have hF := (if_neg c3).symm.trans hF
      obtain ⟨b4, hF⟩ := inb_some hF
      obtain ⟨q5, eq5, hF⟩ := bind_some' hF
      obtain ⟨q6, eq6, hF⟩ := bind_some' hF
      by_cases c7 : q6.1 = 0
      · have hF := (if_pos c7).symm.trans hF
        obtain rfl := Option.some.inj hF
        exact (Fr_tr (Fr_tr (Fr_up (Fr_tr Fr.rf (Fr_mono (fr_X12_memberRead eq2) (fun a j h => by unfold Wr_X12_memberRead at h; unfold Wr_X12_periodLine; omega))) (by unfold Wr_X12_periodLine; omega)) (Fr_mono (fr_X12_token eq5) (fun a j h => by unfold Wr_X12_token at h; unfold Wr_X12_periodLine; omega))) (Fr_mono (fr_X12_number eq6) (fun a j h => by unfold Wr_X12_number at h; unfold Wr_X12_periodLine; omega)))
      · have hF := (if_neg c7).symm.trans hF
        obtain ⟨b8, hF⟩ := inb_some hF
        by_cases c9 : ((upI q6.2 98 (ja (ja 48 (jm 4 (σ.1 94 15))) 1) (q6.2.1 94 22)).1 94 8) = 3
        · have hF := (if_pos c9).symm.trans hF
          obtain ⟨q10, eq10, hF⟩ := bind_some' hF
          by_cases c11 : q10 = 0
          · have hF := (if_pos c11).symm.trans hF
            obtain ⟨q27, eq27, hF⟩ := bind_some' hF
            obtain rfl := Option.some.inj hF
            exact (Fr_tr (Fr_up (Fr_tr (Fr_tr (Fr_up (Fr_tr Fr.rf (Fr_mono (fr_X12_memberRead eq2) (fun a j h => by unfold Wr_X12_memberRead at h; unfold Wr_X12_periodLine; omega))) (by unfold Wr_X12_periodLine; omega)) (Fr_mono (fr_X12_token eq5) (fun a j h => by unfold Wr_X12_token at h; unfold Wr_X12_periodLine; omega))) (Fr_mono (fr_X12_number eq6) (fun a j h => by unfold Wr_X12_number at h; unfold Wr_X12_periodLine; omega))) (by unfold Wr_X12_periodLine; omega)) (Fr_mono (fr_X12_wrong eq27) (fun a j h => by unfold Wr_X12_wrong at h; unfold Wr_X12_periodLine; omega)))
          · have hF := (if_neg c11).symm.trans hF
            exact Fr_tr (Fr_up (Fr_tr (Fr_tr (Fr_up (Fr_tr Fr.rf (Fr_mono (fr_X12_memberRead eq2) (fun a j h => by unfold Wr_X12_memberRead at h; unfold Wr_X12_periodLine; omega))) (by unfold Wr_X12_periodLine; omega)) (Fr_mono (fr_X12_token eq5) (fun a j h => by unfold Wr_X12_token at h; unfold Wr_X12_periodLine; omega))) (Fr_mono (fr_X12_number eq6) (fun a j h => by unfold Wr_X12_number at h; unfold Wr_X12_periodLine; omega))) (by unfold Wr_X12_periodLine; omega)) (loopK_ind (res := res) (P := fun (q : Int) => Fr (Wr_X12_periodLine) (upI q6.2 98 (ja (ja 48 (jm 4 (σ.1 94 15))) 1) (q6.2.1 94 22)) res.2) (fun nx q hn hF => fr_X12_periodLine_B117 hn hF) N _ hF)
        · have hF := (if_neg c9).symm.trans hF
          obtain ⟨q28, eq28, hF⟩ := bind_some' hF
          obtain rfl := Option.some.inj hF
          exact (Fr_tr (Fr_up (Fr_tr (Fr_tr (Fr_up (Fr_tr Fr.rf (Fr_mono (fr_X12_memberRead eq2) (fun a j h => by unfold Wr_X12_memberRead at h; unfold Wr_X12_periodLine; omega))) (by unfold Wr_X12_periodLine; omega)) (Fr_mono (fr_X12_token eq5) (fun a j h => by unfold Wr_X12_token at h; unfold Wr_X12_periodLine; omega))) (Fr_mono (fr_X12_number eq6) (fun a j h => by unfold Wr_X12_number at h; unfold Wr_X12_periodLine; omega))) (by unfold Wr_X12_periodLine; omega)) (Fr_mono (fr_X12_wrong eq28) (fun a j h => by unfold Wr_X12_wrong at h; unfold Wr_X12_periodLine; omega)))
def Wr_X12_wordLine (a : Nat) (j : Int) : Prop := (a = 100) ∨ (a = 94 ∧ j = 10) ∨ (a = 94 ∧ j = 21) ∨ (a = 94 ∧ j = 22) ∨ (a = 94 ∧ j = 4) ∨ (a = 94 ∧ j = 5) ∨ (a = 94 ∧ j = 7) ∨ (a = 94 ∧ j = 8) ∨ (a = 94 ∧ j = 9)
theorem fr_X12_wordLine_J137 {N : Nat}   {t1 : Int} {σ : Sto} {res : Int × Sto} (hF : F_X12_wordLine_J137 N  t1 σ = some res) : Fr (Wr_X12_wordLine) σ res.2 := by
  unfold F_X12_wordLine_J137 at hF
  obtain ⟨b2, hF⟩ := inb_some hF
  obtain rfl := Option.some.inj hF
  exact (Fr_up Fr.rf (by unfold Wr_X12_wordLine; omega))
theorem fr_X12_wordLine_J103 {N : Nat}   {v1 : Int} {σ : Sto} {res : Int × Sto} (hF : F_X12_wordLine_J103 N  v1 σ = some res) : Fr (Wr_X12_wordLine) σ res.2 := by
  unfold F_X12_wordLine_J103 at hF
  by_cases c3 : v1 = 3
  · have hF := (if_pos c3).symm.trans hF
    exact fr_X12_wordLine_J137  hF
  · have hF := (if_neg c3).symm.trans hF
    by_cases c4 : v1 = 4
    · have hF := (if_pos c4).symm.trans hF
      exact fr_X12_wordLine_J137  hF
    · have hF := (if_neg c4).symm.trans hF
      by_cases c5 : v1 = 5
      · have hF := (if_pos c5).symm.trans hF
        exact fr_X12_wordLine_J137  hF
      · have hF := (if_neg c5).symm.trans hF
        exact fr_X12_wordLine_J137  hF
theorem fr_X12_wordLine {N : Nat}  {σ : Sto} {res : Int × Sto} (hF : F_X12_wordLine N  σ = some res) : Fr (Wr_X12_wordLine) σ res.2 := by
  unfold F_X12_wordLine at hF
  by_cases c1 : (jand (jshr (σ.1 94 21) (σ.1 94 9)) 1) = 1
  · have hF := (if_pos c1).symm.trans hF
    obtain ⟨q18, eq18, hF⟩ := bind_some' hF
    obtain rfl := Option.some.inj hF
    exact (Fr_tr Fr.rf (Fr_mono (fr_X12_wrong eq18) (fun a j h => by unfold Wr_X12_wrong at h; unfold Wr_X12_wordLine; omega)))
  · have hF := (if_neg c1).symm.trans hF
    obtain ⟨q6, eq6, hF⟩ := bind_some' hF
    by_cases c7 : (σ.1 94 9) = 3
    · have hF := (if_pos c7).symm.trans hF
      obtain ⟨q16, eq16, hF⟩ := bind_some' hF
      by_cases c17 : q16.1 = 0
      · have hF := (if_pos c17).symm.trans hF
        obtain rfl := Option.some.inj hF
        exact (Fr_tr (Fr_tr (Fr_up Fr.rf (by unfold Wr_X12_wordLine; omega)) (Fr_mono (fr_X12_token eq6) (fun a j h => by unfold Wr_X12_token at h; unfold Wr_X12_wordLine; omega))) (Fr_mono (fr_X12_number eq16) (fun a j h => by unfold Wr_X12_number at h; unfold Wr_X12_wordLine; omega)))
      · have hF := (if_neg c17).symm.trans hF
        exact Fr_tr (Fr_tr (Fr_tr (Fr_up Fr.rf (by unfold Wr_X12_wordLine; omega)) (Fr_mono (fr_X12_token eq6) (fun a j h => by unfold Wr_X12_token at h; unfold Wr_X12_wordLine; omega))) (Fr_mono (fr_X12_number eq16) (fun a j h => by unfold Wr_X12_number at h; unfold Wr_X12_wordLine; omega))) (fr_X12_wordLine_J103  hF)
    · have hF := (if_neg c7).symm.trans hF
      by_cases c8 : (σ.1 94 9) = 4
      · have hF := (if_pos c8).symm.trans hF
        obtain ⟨q14, eq14, hF⟩ := bind_some' hF
        by_cases c15 : q14.1 = 0
        · have hF := (if_pos c15).symm.trans hF
          obtain rfl := Option.some.inj hF
          exact (Fr_tr (Fr_tr (Fr_up Fr.rf (by unfold Wr_X12_wordLine; omega)) (Fr_mono (fr_X12_token eq6) (fun a j h => by unfold Wr_X12_token at h; unfold Wr_X12_wordLine; omega))) (Fr_mono (fr_X12_number eq14) (fun a j h => by unfold Wr_X12_number at h; unfold Wr_X12_wordLine; omega)))
        · have hF := (if_neg c15).symm.trans hF
          exact Fr_tr (Fr_tr (Fr_tr (Fr_up Fr.rf (by unfold Wr_X12_wordLine; omega)) (Fr_mono (fr_X12_token eq6) (fun a j h => by unfold Wr_X12_token at h; unfold Wr_X12_wordLine; omega))) (Fr_mono (fr_X12_number eq14) (fun a j h => by unfold Wr_X12_number at h; unfold Wr_X12_wordLine; omega))) (fr_X12_wordLine_J103  hF)
      · have hF := (if_neg c8).symm.trans hF
        by_cases c9 : (σ.1 94 9) = 5
        · have hF := (if_pos c9).symm.trans hF
          obtain ⟨q12, eq12, hF⟩ := bind_some' hF
          by_cases c13 : q12.1 = 0
          · have hF := (if_pos c13).symm.trans hF
            obtain rfl := Option.some.inj hF
            exact (Fr_tr (Fr_tr (Fr_up Fr.rf (by unfold Wr_X12_wordLine; omega)) (Fr_mono (fr_X12_token eq6) (fun a j h => by unfold Wr_X12_token at h; unfold Wr_X12_wordLine; omega))) (Fr_mono (fr_X12_number eq12) (fun a j h => by unfold Wr_X12_number at h; unfold Wr_X12_wordLine; omega)))
          · have hF := (if_neg c13).symm.trans hF
            exact Fr_tr (Fr_tr (Fr_tr (Fr_up Fr.rf (by unfold Wr_X12_wordLine; omega)) (Fr_mono (fr_X12_token eq6) (fun a j h => by unfold Wr_X12_token at h; unfold Wr_X12_wordLine; omega))) (Fr_mono (fr_X12_number eq12) (fun a j h => by unfold Wr_X12_number at h; unfold Wr_X12_wordLine; omega))) (fr_X12_wordLine_J103  hF)
        · have hF := (if_neg c9).symm.trans hF
          obtain ⟨q10, eq10, hF⟩ := bind_some' hF
          by_cases c11 : q10.1 = 0
          · have hF := (if_pos c11).symm.trans hF
            obtain rfl := Option.some.inj hF
            exact (Fr_tr (Fr_tr (Fr_up Fr.rf (by unfold Wr_X12_wordLine; omega)) (Fr_mono (fr_X12_token eq6) (fun a j h => by unfold Wr_X12_token at h; unfold Wr_X12_wordLine; omega))) (Fr_mono (fr_X12_number eq10) (fun a j h => by unfold Wr_X12_number at h; unfold Wr_X12_wordLine; omega)))
          · have hF := (if_neg c11).symm.trans hF
            exact Fr_tr (Fr_tr (Fr_tr (Fr_up Fr.rf (by unfold Wr_X12_wordLine; omega)) (Fr_mono (fr_X12_token eq6) (fun a j h => by unfold Wr_X12_token at h; unfold Wr_X12_wordLine; omega))) (Fr_mono (fr_X12_number eq10) (fun a j h => by unfold Wr_X12_number at h; unfold Wr_X12_wordLine; omega))) (fr_X12_wordLine_J103  hF)
def Wr_X12_lineRead (a : Nat) (j : Int) : Prop := ((97 ≤ a ∧ a ≤ 100)) ∨ (a = 94 ∧ j = 10) ∨ (a = 94 ∧ j = 12) ∨ (a = 94 ∧ j = 15) ∨ (a = 94 ∧ j = 18) ∨ (a = 94 ∧ j = 21) ∨ (a = 94 ∧ j = 22) ∨ (a = 94 ∧ j = 4) ∨ (a = 94 ∧ j = 5) ∨ (a = 94 ∧ j = 7) ∨ (a = 94 ∧ j = 8) ∨ (a = 94 ∧ j = 9)
theorem fr_X12_lineRead_J62 {N : Nat}   {t0 : Int} {σ : Sto} {res : Int × Sto} (hF : F_X12_lineRead_J62 N  t0 σ = some res) : Fr (Wr_X12_lineRead) σ res.2 := by
  unfold F_X12_lineRead_J62 at hF
  by_cases c2 : t0 = 0
  · have hF := (if_pos c2).symm.trans hF
    obtain rfl := Option.some.inj hF
    exact Fr.rf
  · have hF := (if_neg c2).symm.trans hF
    by_cases c3 : (σ.1 94 8) = 4
    · have hF := (if_pos c3).symm.trans hF
      obtain ⟨q4, eq4, hF⟩ := bind_some' hF
      obtain rfl := Option.some.inj hF
      exact (Fr_tr Fr.rf (Fr_mono (fr_X12_token eq4) (fun a j h => by unfold Wr_X12_token at h; unfold Wr_X12_lineRead; omega)))
    · have hF := (if_neg c3).symm.trans hF
      obtain ⟨q5, eq5, hF⟩ := bind_some' hF
      obtain rfl := Option.some.inj hF
      exact (Fr_tr Fr.rf (Fr_mono (fr_X12_wrong eq5) (fun a j h => by unfold Wr_X12_wrong at h; unfold Wr_X12_lineRead; omega)))
theorem fr_X12_lineRead {N : Nat}  {σ : Sto} {res : Int × Sto} (hF : F_X12_lineRead N  σ = some res) : Fr (Wr_X12_lineRead) σ res.2 := by
  unfold F_X12_lineRead at hF
  by_cases c1 : (σ.1 94 8) = 1
  · have hF := (if_pos c1).symm.trans hF
    by_cases c6 : (σ.1 94 9) = 0
    · have hF := (if_pos c6).symm.trans hF
      obtain ⟨q12, eq12, hF⟩ := bind_some' hF
      exact Fr_tr (Fr_tr Fr.rf (Fr_mono (fr_X12_memberLine eq12) (fun a j h => by unfold Wr_X12_memberLine at h; unfold Wr_X12_lineRead; omega))) (fr_X12_lineRead_J62  hF)
    · have hF := (if_neg c6).symm.trans hF
      by_cases c7 : (σ.1 94 9) = 1
      · have hF := (if_pos c7).symm.trans hF
        obtain ⟨q11, eq11, hF⟩ := bind_some' hF
        exact Fr_tr (Fr_tr Fr.rf (Fr_mono (fr_X12_ownsLine eq11) (fun a j h => by unfold Wr_X12_ownsLine at h; unfold Wr_X12_lineRead; omega))) (fr_X12_lineRead_J62  hF)
      · have hF := (if_neg c7).symm.trans hF
        by_cases c8 : (σ.1 94 9) = 2
        · have hF := (if_pos c8).symm.trans hF
          obtain ⟨q10, eq10, hF⟩ := bind_some' hF
          exact Fr_tr (Fr_tr Fr.rf (Fr_mono (fr_X12_periodLine eq10) (fun a j h => by unfold Wr_X12_periodLine at h; unfold Wr_X12_lineRead; omega))) (fr_X12_lineRead_J62  hF)
        · have hF := (if_neg c8).symm.trans hF
          obtain ⟨q9, eq9, hF⟩ := bind_some' hF
          exact Fr_tr (Fr_tr Fr.rf (Fr_mono (fr_X12_wordLine eq9) (fun a j h => by unfold Wr_X12_wordLine at h; unfold Wr_X12_lineRead; omega))) (fr_X12_lineRead_J62  hF)
  · have hF := (if_neg c1).symm.trans hF
    obtain ⟨q13, eq13, hF⟩ := bind_some' hF
    obtain rfl := Option.some.inj hF
    exact (Fr_tr Fr.rf (Fr_mono (fr_X12_wrong eq13) (fun a j h => by unfold Wr_X12_wrong at h; unfold Wr_X12_lineRead; omega)))
def Wr_X12_text (a : Nat) (j : Int) : Prop := ((97 ≤ a ∧ a ≤ 101)) ∨ (a = 94 ∧ j = 1) ∨ (a = 94 ∧ j = 10) ∨ (a = 94 ∧ j = 11) ∨ (a = 94 ∧ j = 12) ∨ (a = 94 ∧ j = 14) ∨ (a = 94 ∧ j = 15) ∨ (a = 94 ∧ j = 17) ∨ (a = 94 ∧ j = 18) ∨ (a = 94 ∧ j = 2) ∨ (a = 94 ∧ j = 21) ∨ (a = 94 ∧ j = 22) ∨ (a = 94 ∧ j = 24) ∨ (a = 94 ∧ j = 25) ∨ (a = 94 ∧ j = 26) ∨ (a = 94 ∧ j = 33) ∨ (a = 94 ∧ j = 4) ∨ (a = 94 ∧ j = 5) ∨ (a = 94 ∧ j = 6) ∨ (a = 94 ∧ j = 7) ∨ (a = 94 ∧ j = 8) ∨ (a = 94 ∧ j = 9)
theorem fr_X12_text_J77 {N : Nat}   {v2 : Int} {σ : Sto} {res : Int × Sto} (hF : F_X12_text_J77 N  v2 σ = some res) : Fr (Wr_X12_text) σ res.2 := by
  unfold F_X12_text_J77 at hF
  obtain ⟨q5, eq5, hF⟩ := bind_some' hF
  obtain rfl := Option.some.inj hF
  exact (Fr_tr Fr.rf (Fr_mono (fr_X12_keepText eq5) (fun a j h => by unfold Wr_X12_keepText at h; unfold Wr_X12_text; omega)))
theorem fr_X12_text_B55 {N : Nat}  {nx55 : (Int × Sto) → Option (Int × Sto)} {v2 : Int} {σ : Sto} {res : Int × Sto} (hnx55 : ∀ q, nx55 q = some res → Fr (Wr_X12_text) q.2 res.2) (hF : F_X12_text_B55 N nx55 v2 σ = some res) : Fr (Wr_X12_text) σ res.2 := by
  unfold F_X12_text_B55 at hF
  by_cases c6 : (σ.1 94 8) = 0
  · have hF := (if_pos c6).symm.trans hF
    exact fr_X12_text_J77  hF
  · have hF := (if_neg c6).symm.trans hF
    obtain ⟨q7, eq7, hF⟩ := bind_some' hF
    by_cases c8 : q7.1 = 0
    · have hF := (if_pos c8).symm.trans hF
      obtain rfl := Option.some.inj hF
      exact (Fr_tr Fr.rf (Fr_mono (fr_X12_lineRead eq7) (fun a j h => by unfold Wr_X12_lineRead at h; unfold Wr_X12_text; omega)))
    · have hF := (if_neg c8).symm.trans hF
      exact Fr_tr (Fr_tr Fr.rf (Fr_mono (fr_X12_lineRead eq7) (fun a j h => by unfold Wr_X12_lineRead at h; unfold Wr_X12_text; omega))) (hnx55 _ hF)
theorem fr_X12_text {N : Nat} {v1 : Int} {σ : Sto} {res : Int × Sto} (hF : F_X12_text N v1 σ = some res) : Fr (Wr_X12_text) σ res.2 := by
  unfold F_X12_text at hF
  by_cases c1 : v1 < 0
  · have hF := (if_pos c1).symm.trans hF
    obtain rfl := Option.some.inj hF
    exact (Fr_up Fr.rf (by unfold Wr_X12_text; omega))
  · have hF := (if_neg c1).symm.trans hF
    by_cases c2 : v1 ≤ ((upI σ 94 2 0).1 94 1)
    · have hF := (if_pos c2).symm.trans hF
      obtain ⟨q3, eq3, hF⟩ := bind_some' hF
      obtain ⟨q4, eq4, hF⟩ := bind_some' hF
      exact Fr_tr (Fr_tr (Fr_tr (Fr_up (Fr_up (Fr_up (Fr_up (Fr_up (Fr_up Fr.rf (by unfold Wr_X12_text; omega)) (by unfold Wr_X12_text; omega)) (by unfold Wr_X12_text; omega)) (by unfold Wr_X12_text; omega)) (by unfold Wr_X12_text; omega)) (by unfold Wr_X12_text; omega)) (Fr_mono (fr_X12_plain eq3) (fun a j h => by unfold Wr_X12_plain at h; unfold Wr_X12_text; omega))) (Fr_mono (fr_X12_token eq4) (fun a j h => by unfold Wr_X12_token at h; unfold Wr_X12_text; omega))) (loopK_ind (res := res) (P := fun (q : Int × Sto) => Fr (Wr_X12_text) q.2 res.2) (fun nx q hn hF => fr_X12_text_B55 hn hF) N _ hF)
    · have hF := (if_neg c2).symm.trans hF
      obtain rfl := Option.some.inj hF
      exact (Fr_up Fr.rf (by unfold Wr_X12_text; omega))
def Wr_X12_fault (a : Nat) (j : Int) : Prop := (a = 94 ∧ j = 2)
theorem fr_X12_fault {N : Nat} {v1 : Int} {σ : Sto} {res : Int × Sto} (hF : F_X12_fault N v1 σ = some res) : Fr (Wr_X12_fault) σ res.2 := by
  unfold F_X12_fault at hF
  by_cases c1 : v1 = 0
  · have hF := (if_pos c1).symm.trans hF
    obtain rfl := Option.some.inj hF
    exact (Fr_up Fr.rf (by unfold Wr_X12_fault; omega))
  · have hF := (if_neg c1).symm.trans hF
    by_cases c2 : v1 = 1
    · have hF := (if_pos c2).symm.trans hF
      obtain rfl := Option.some.inj hF
      exact (Fr_up Fr.rf (by unfold Wr_X12_fault; omega))
    · have hF := (if_neg c2).symm.trans hF
      obtain rfl := Option.some.inj hF
      exact (Fr_up Fr.rf (by unfold Wr_X12_fault; omega))
def Wr_X12_named (a : Nat) (j : Int) : Prop := (a = 94 ∧ j = 2)
theorem fr_X12_named {N : Nat} {v1 : Int} {σ : Sto} {res : Int × Sto} (hF : F_X12_named N v1 σ = some res) : Fr (Wr_X12_named) σ res.2 := by
  unfold F_X12_named at hF
  obtain ⟨q1, eq1, hF⟩ := bind_some' hF
  obtain rfl := Option.some.inj hF
  exact (Fr_up Fr.rf (by unfold Wr_X12_named; omega))
def Wr_X12_copyBank (a : Nat) (j : Int) : Prop := (a = 101)
theorem fr_X12_copyBank_B2 {N : Nat}  {nx2 : (Int × Sto) → Option (Sto)} {v1 : Int} {v2 : Int} {v3 : Int} {σ : Sto} {res : Sto} (hnx2 : ∀ q, nx2 q = some res → Fr (Wr_X12_copyBank) q.2 res) (hF : F_X12_copyBank_B2 N nx2 v1 v2 v3 σ = some res) : Fr (Wr_X12_copyBank) σ res := by
  unfold F_X12_copyBank_B2 at hF
  by_cases c1 : 200 ≤ v3
  · have hF := (if_pos c1).symm.trans hF
    obtain rfl := Option.some.inj hF
    exact Fr.rf
  · have hF := (if_neg c1).symm.trans hF
    obtain ⟨b2, hF⟩ := inb_some hF
    obtain ⟨b3, hF⟩ := inb_some hF
    exact Fr_tr (Fr_up Fr.rf (by unfold Wr_X12_copyBank; omega)) (hnx2 _ hF)
theorem fr_X12_copyBank {N : Nat} {v1 : Int} {v2 : Int} {σ : Sto} {res : Sto} (hF : F_X12_copyBank N v1 v2 σ = some res) : Fr (Wr_X12_copyBank) σ res := by
  unfold F_X12_copyBank at hF
  exact (loopK_ind (res := res) (P := fun (q : Int × Sto) => Fr (Wr_X12_copyBank) q.2 res) (fun nx q hn hF => fr_X12_copyBank_B2 hn hF) N _ hF)
def Wr_X12_canUndo (a : Nat) (j : Int) : Prop := (a = 101) ∨ (a = 94 ∧ j = 25)
theorem fr_X12_canUndo_J39 {N : Nat}    {σ : Sto} {res : Sto} (hF : F_X12_canUndo_J39 N   σ = some res) : Fr (Wr_X12_canUndo) σ res := by
  unfold F_X12_canUndo_J39 at hF
  obtain ⟨q1, eq1, hF⟩ := bind_some' hF
  obtain rfl := Option.some.inj hF
  exact (Fr_up (Fr_tr Fr.rf (Fr_mono (fr_X12_copyBank eq1) (fun a j h => by unfold Wr_X12_copyBank at h; unfold Wr_X12_canUndo; omega))) (by unfold Wr_X12_canUndo; omega))
theorem fr_X12_canUndo_J33 {N : Nat}    {σ : Sto} {res : Sto} (hF : F_X12_canUndo_J33 N   σ = some res) : Fr (Wr_X12_canUndo) σ res := by
  unfold F_X12_canUndo_J33 at hF
  exact Fr_tr (Fr_up Fr.rf (by unfold Wr_X12_canUndo; omega)) (fr_X12_canUndo_J39  hF)
theorem fr_X12_canUndo_B11 {N : Nat}  {nx11 : (Int × Sto) → Option (Sto)} {v1 : Int} {σ : Sto} {res : Sto} (hnx11 : ∀ q, nx11 q = some res → Fr (Wr_X12_canUndo) q.2 res) (hF : F_X12_canUndo_B11 N nx11 v1 σ = some res) : Fr (Wr_X12_canUndo) σ res := by
  unfold F_X12_canUndo_B11 at hF
  by_cases c3 : 20 ≤ v1
  · have hF := (if_pos c3).symm.trans hF
    exact fr_X12_canUndo_J33  hF
  · have hF := (if_neg c3).symm.trans hF
    obtain ⟨q4, eq4, hF⟩ := bind_some' hF
    exact Fr_tr (Fr_tr Fr.rf (Fr_mono (fr_X12_copyBank eq4) (fun a j h => by unfold Wr_X12_copyBank at h; unfold Wr_X12_canUndo; omega))) (hnx11 _ hF)
theorem fr_X12_canUndo {N : Nat}  {σ : Sto} {res : Sto} (hF : F_X12_canUndo N  σ = some res) : Fr (Wr_X12_canUndo) σ res := by
  unfold F_X12_canUndo at hF
  by_cases c2 : (σ.1 94 25) = 20
  · have hF := (if_pos c2).symm.trans hF
    exact (loopK_ind (res := res) (P := fun (q : Int × Sto) => Fr (Wr_X12_canUndo) q.2 res) (fun nx q hn hF => fr_X12_canUndo_B11 hn hF) N _ hF)
  · have hF := (if_neg c2).symm.trans hF
    exact fr_X12_canUndo_J39  hF
def Wr_X12_undo (a : Nat) (j : Int) : Prop := (a = 101) ∨ (a = 94 ∧ j = 2) ∨ (a = 94 ∧ j = 25)
theorem fr_X12_undo {N : Nat}  {σ : Sto} {res : Int × Sto} (hF : F_X12_undo N  σ = some res) : Fr (Wr_X12_undo) σ res.2 := by
  unfold F_X12_undo at hF
  by_cases c1 : ((upI σ 94 2 0).1 94 25) = 0
  · have hF := (if_pos c1).symm.trans hF
    obtain rfl := Option.some.inj hF
    exact (Fr_up Fr.rf (by unfold Wr_X12_undo; omega))
  · have hF := (if_neg c1).symm.trans hF
    obtain ⟨q2, eq2, hF⟩ := bind_some' hF
    obtain rfl := Option.some.inj hF
    exact (Fr_tr (Fr_up (Fr_up Fr.rf (by unfold Wr_X12_undo; omega)) (by unfold Wr_X12_undo; omega)) (Fr_mono (fr_X12_copyBank eq2) (fun a j h => by unfold Wr_X12_copyBank at h; unfold Wr_X12_undo; omega)))
def Wr_X12_keep (a : Nat) (j : Int) : Prop := (a = 101) ∨ (a = 94 ∧ j = 2) ∨ (a = 94 ∧ j = 26)
theorem fr_X12_keep {N : Nat}  {σ : Sto} {res : Int × Sto} (hF : F_X12_keep N  σ = some res) : Fr (Wr_X12_keep) σ res.2 := by
  unfold F_X12_keep at hF
  obtain ⟨q1, eq1, hF⟩ := bind_some' hF
  obtain ⟨q2, eq2, hF⟩ := bind_some' hF
  obtain rfl := Option.some.inj hF
  exact (Fr_up (Fr_tr (Fr_up Fr.rf (by unfold Wr_X12_keep; omega)) (Fr_mono (fr_X12_copyBank eq1) (fun a j h => by unfold Wr_X12_copyBank at h; unfold Wr_X12_keep; omega))) (by unfold Wr_X12_keep; omega))
def Wr_X12_back (a : Nat) (j : Int) : Prop := (a = 101) ∨ (a = 94 ∧ j = 2) ∨ (a = 94 ∧ j = 25)
theorem fr_X12_back {N : Nat}  {σ : Sto} {res : Int × Sto} (hF : F_X12_back N  σ = some res) : Fr (Wr_X12_back) σ res.2 := by
  unfold F_X12_back at hF
  by_cases c1 : ((upI σ 94 2 0).1 94 26) = 0
  · have hF := (if_pos c1).symm.trans hF
    obtain rfl := Option.some.inj hF
    exact (Fr_up Fr.rf (by unfold Wr_X12_back; omega))
  · have hF := (if_neg c1).symm.trans hF
    obtain ⟨q2, eq2, hF⟩ := bind_some' hF
    obtain ⟨q3, eq3, hF⟩ := bind_some' hF
    obtain rfl := Option.some.inj hF
    exact (Fr_up (Fr_tr (Fr_up Fr.rf (by unfold Wr_X12_back; omega)) (Fr_mono (fr_X12_copyBank eq2) (fun a j h => by unfold Wr_X12_copyBank at h; unfold Wr_X12_back; omega))) (by unfold Wr_X12_back; omega))
def Wr_X12_laysShares (a : Nat) (j : Int) : Prop := (a = 102)
theorem fr_X12_laysShares_J96 {N : Nat}  {nx2 : (Int × Sto) → Option (Sto)} {v1 : Int} {v2 : Int} {σ : Sto} {res : Sto} (hnx2 : ∀ q, nx2 q = some res → Fr (Wr_X12_laysShares) q.2 res) (hF : F_X12_laysShares_J96 N nx2 v1 v2 σ = some res) : Fr (Wr_X12_laysShares) σ res := by
  unfold F_X12_laysShares_J96 at hF
  exact Fr_tr Fr.rf (hnx2 _ hF)
theorem fr_X12_laysShares_J77 {N : Nat}  {nx2 : (Int × Sto) → Option (Sto)} {nx12 : (Int × Sto) → Option (Sto)} {v1 : Int} {v2 : Int} {v3 : Int} {v4 : UInt32} {σ : Sto} {res : Sto} (hnx2 : ∀ q, nx2 q = some res → Fr (Wr_X12_laysShares) q.2 res) (hnx12 : ∀ q, nx12 q = some res → Fr (Wr_X12_laysShares) q.2 res) (hF : F_X12_laysShares_J77 N nx2 nx12 v1 v2 v3 v4 σ = some res) : Fr (Wr_X12_laysShares) σ res := by
  unfold F_X12_laysShares_J77 at hF
  obtain ⟨b3, hF⟩ := inb_some hF
  exact Fr_tr (Fr_uf Fr.rf (by unfold Wr_X12_laysShares; omega)) (hnx12 _ hF)
theorem fr_X12_laysShares_B35 {N : Nat}  {nx2 : (Int × Sto) → Option (Sto)} {nx12 : (Int × Sto) → Option (Sto)} {nx35 : (UInt32 × Int) → Option (Sto)} {v1 : Int} {v2 : Int} {v3 : Int} {v4 : UInt32} {v5 : Int} {σ : Sto} {res : Sto} (hnx2 : ∀ q, nx2 q = some res → Fr (Wr_X12_laysShares) q.2 res) (hnx12 : ∀ q, nx12 q = some res → Fr (Wr_X12_laysShares) q.2 res) (hnx35 : ∀ q, nx35 q = some res → Fr (Wr_X12_laysShares) σ res) (hF : F_X12_laysShares_B35 N nx2 nx12 nx35 v1 v2 v3 v4 v5 σ = some res) : Fr (Wr_X12_laysShares) σ res := by
  unfold F_X12_laysShares_B35 at hF
  by_cases c4 : v3 ≤ v5
  · have hF := (if_pos c4).symm.trans hF
    exact fr_X12_laysShares_J77 hnx2 hnx12 hF
  · have hF := (if_neg c4).symm.trans hF
    obtain ⟨b5, hF⟩ := inb_some hF
    obtain ⟨q6, eq6, hF⟩ := bind_some' hF
    obtain ⟨n7, hF⟩ := grd_some hF
    obtain ⟨n8, hF⟩ := grd_some hF
    obtain ⟨n9, hF⟩ := grd_some hF
    exact hnx35 _ hF
theorem fr_X12_laysShares_J30 {N : Nat}  {nx2 : (Int × Sto) → Option (Sto)} {nx12 : (Int × Sto) → Option (Sto)} {v1 : Int} {v2 : Int} {v3 : Int} {t0 : UInt32} {σ : Sto} {res : Sto} (hnx2 : ∀ q, nx2 q = some res → Fr (Wr_X12_laysShares) q.2 res) (hnx12 : ∀ q, nx12 q = some res → Fr (Wr_X12_laysShares) q.2 res) (hF : F_X12_laysShares_J30 N nx2 nx12 v1 v2 v3 t0 σ = some res) : Fr (Wr_X12_laysShares) σ res := by
  unfold F_X12_laysShares_J30 at hF
  exact (loopK_ind (res := res) (P := fun (q : UInt32 × Int) => Fr (Wr_X12_laysShares) σ res) (fun nx q hn hF => fr_X12_laysShares_B35 hnx2 hnx12 hn hF) N _ hF)
theorem fr_X12_laysShares_B12 {N : Nat}  {nx2 : (Int × Sto) → Option (Sto)} {nx12 : (Int × Sto) → Option (Sto)} {v1 : Int} {v2 : Int} {v3 : Int} {σ : Sto} {res : Sto} (hnx2 : ∀ q, nx2 q = some res → Fr (Wr_X12_laysShares) q.2 res) (hnx12 : ∀ q, nx12 q = some res → Fr (Wr_X12_laysShares) q.2 res) (hF : F_X12_laysShares_B12 N nx2 nx12 v1 v2 v3 σ = some res) : Fr (Wr_X12_laysShares) σ res := by
  unfold F_X12_laysShares_B12 at hF
  by_cases c2 : (σ.1 94 11) ≤ v3
  · have hF := (if_pos c2).symm.trans hF
    exact fr_X12_laysShares_J96 hnx2 hF
  · have hF := (if_neg c2).symm.trans hF
    by_cases c10 : v2 = v3
    · have hF := (if_pos c10).symm.trans hF
      exact fr_X12_laysShares_J30 hnx2 hnx12 hF
    · have hF := (if_neg c10).symm.trans hF
      exact fr_X12_laysShares_J30 hnx2 hnx12 hF
theorem fr_X12_laysShares_B2 {N : Nat}  {nx2 : (Int × Sto) → Option (Sto)} {v1 : Int} {v2 : Int} {σ : Sto} {res : Sto} (hnx2 : ∀ q, nx2 q = some res → Fr (Wr_X12_laysShares) q.2 res) (hF : F_X12_laysShares_B2 N nx2 v1 v2 σ = some res) : Fr (Wr_X12_laysShares) σ res := by
  unfold F_X12_laysShares_B2 at hF
  by_cases c1 : (σ.1 94 11) ≤ v2
  · have hF := (if_pos c1).symm.trans hF
    obtain rfl := Option.some.inj hF
    exact Fr.rf
  · have hF := (if_neg c1).symm.trans hF
    exact (loopK_ind (res := res) (P := fun (q : Int × Sto) => Fr (Wr_X12_laysShares) q.2 res) (fun nx q hn hF => fr_X12_laysShares_B12 hnx2 hn hF) N _ hF)
theorem fr_X12_laysShares {N : Nat} {v1 : Int} {σ : Sto} {res : Sto} (hF : F_X12_laysShares N v1 σ = some res) : Fr (Wr_X12_laysShares) σ res := by
  unfold F_X12_laysShares at hF
  exact (loopK_ind (res := res) (P := fun (q : Int × Sto) => Fr (Wr_X12_laysShares) q.2 res) (fun nx q hn hF => fr_X12_laysShares_B2 hn hF) N _ hF)
def Wr_X12_laysStretches (a : Nat) (j : Int) : Prop := ((102 ≤ a ∧ a ≤ 104)) ∨ (a = 94 ∧ j = 30)
theorem fr_X12_laysStretches_J175 {N : Nat}    {σ : Sto} {res : Sto} (hF : F_X12_laysStretches_J175 N   σ = some res) : Fr (Wr_X12_laysStretches) σ res := by
  unfold F_X12_laysStretches_J175 at hF
  obtain ⟨b1, hF⟩ := inb_some hF
  obtain rfl := Option.some.inj hF
  exact (Fr_up Fr.rf (by unfold Wr_X12_laysStretches; omega))
theorem fr_X12_laysStretches_J170 {N : Nat}  {nx7 : (Int × Sto) → Option (Sto)} {v1 : Int} {v3 : Int} {σ : Sto} {res : Sto} (hnx7 : ∀ q, nx7 q = some res → Fr (Wr_X12_laysStretches) q.2 res) (hF : F_X12_laysStretches_J170 N nx7 v1 v3 σ = some res) : Fr (Wr_X12_laysStretches) σ res := by
  unfold F_X12_laysStretches_J170 at hF
  exact Fr_tr Fr.rf (hnx7 _ hF)
theorem fr_X12_laysStretches_J164 {N : Nat}  {nx7 : (Int × Sto) → Option (Sto)} {nx123 : (Int × Int) → Option (Sto)} {v1 : Int} {v2 : Int} {v3 : Int} {v4 : Int} {σ : Sto} {res : Sto} (hnx7 : ∀ q, nx7 q = some res → Fr (Wr_X12_laysStretches) q.2 res) (hnx123 : ∀ q, nx123 q = some res → Fr (Wr_X12_laysStretches) σ res) (hF : F_X12_laysStretches_J164 N nx7 nx123 v1 v2 v3 v4 σ = some res) : Fr (Wr_X12_laysStretches) σ res := by
  unfold F_X12_laysStretches_J164 at hF
  exact hnx123 _ hF
theorem fr_X12_laysStretches_B123 {N : Nat}  {nx7 : (Int × Sto) → Option (Sto)} {nx123 : (Int × Int) → Option (Sto)} {v1 : Int} {v2 : Int} {v3 : Int} {v4 : Int} {σ : Sto} {res : Sto} (hnx7 : ∀ q, nx7 q = some res → Fr (Wr_X12_laysStretches) q.2 res) (hnx123 : ∀ q, nx123 q = some res → Fr (Wr_X12_laysStretches) σ res) (hF : F_X12_laysStretches_B123 N nx7 nx123 v1 v2 v3 v4 σ = some res) : Fr (Wr_X12_laysStretches) σ res := by
  unfold F_X12_laysStretches_B123 at hF
  obtain ⟨q5, eq5, hF⟩ := bind_some' hF
  by_cases c6 : q5 ≤ v4
  · have hF := (if_pos c6).symm.trans hF
    exact fr_X12_laysStretches_J170 hnx7 hF
  · have hF := (if_neg c6).symm.trans hF
    obtain ⟨q7, eq7, hF⟩ := bind_some' hF
    by_cases c8 : q7 ≤ v2
    · have hF := (if_pos c8).symm.trans hF
      exact fr_X12_laysStretches_J164 hnx7 hnx123 hF
    · have hF := (if_neg c8).symm.trans hF
      by_cases c9 : v3 ≤ q7
      · have hF := (if_pos c9).symm.trans hF
        exact fr_X12_laysStretches_J164 hnx7 hnx123 hF
      · have hF := (if_neg c9).symm.trans hF
        exact fr_X12_laysStretches_J164 hnx7 hnx123 hF
theorem fr_X12_laysStretches_J106 {N : Nat}  {nx7 : (Int × Sto) → Option (Sto)} {v1 : Int} {v2 : Int} {σ : Sto} {res : Sto} (hnx7 : ∀ q, nx7 q = some res → Fr (Wr_X12_laysStretches) q.2 res) (hF : F_X12_laysStretches_J106 N nx7 v1 v2 σ = some res) : Fr (Wr_X12_laysStretches) σ res := by
  unfold F_X12_laysStretches_J106 at hF
  exact Fr_tr (Fr_up Fr.rf (by unfold Wr_X12_laysStretches; omega)) (loopK_ind (res := res) (P := fun (q : Int × Int) => Fr (Wr_X12_laysStretches) (upI σ 94 30 (ja (σ.1 94 30) 1)) res) (fun nx q hn hF => fr_X12_laysStretches_B123 hnx7 hn hF) N _ hF)
theorem fr_X12_laysStretches_J84 {N : Nat}  {nx7 : (Int × Sto) → Option (Sto)} {nx31 : (Int × Sto) → Option (Sto)} {v1 : Int} {v2 : Int} {v3 : Int} {v4 : Int} {σ : Sto} {res : Sto} (hnx7 : ∀ q, nx7 q = some res → Fr (Wr_X12_laysStretches) q.2 res) (hnx31 : ∀ q, nx31 q = some res → Fr (Wr_X12_laysStretches) q.2 res) (hF : F_X12_laysStretches_J84 N nx7 nx31 v1 v2 v3 v4 σ = some res) : Fr (Wr_X12_laysStretches) σ res := by
  unfold F_X12_laysStretches_J84 at hF
  obtain ⟨b11, hF⟩ := inb_some hF
  exact Fr_tr (Fr_up Fr.rf (by unfold Wr_X12_laysStretches; omega)) (hnx31 _ hF)
theorem fr_X12_laysStretches_J75 {N : Nat}  {nx7 : (Int × Sto) → Option (Sto)} {nx31 : (Int × Sto) → Option (Sto)} {nx45 : (Int × Int) → Option (Sto)} {v1 : Int} {v2 : Int} {v3 : Int} {v5 : Int} {t0 : Int} {t1 : Int} {σ : Sto} {res : Sto} (hnx7 : ∀ q, nx7 q = some res → Fr (Wr_X12_laysStretches) q.2 res) (hnx31 : ∀ q, nx31 q = some res → Fr (Wr_X12_laysStretches) q.2 res) (hnx45 : ∀ q, nx45 q = some res → Fr (Wr_X12_laysStretches) σ res) (hF : F_X12_laysStretches_J75 N nx7 nx31 nx45 v1 v2 v3 v5 t0 t1 σ = some res) : Fr (Wr_X12_laysStretches) σ res := by
  unfold F_X12_laysStretches_J75 at hF
  exact hnx45 _ hF
theorem fr_X12_laysStretches_B45 {N : Nat}  {nx7 : (Int × Sto) → Option (Sto)} {nx31 : (Int × Sto) → Option (Sto)} {nx45 : (Int × Int) → Option (Sto)} {v1 : Int} {v2 : Int} {v3 : Int} {v4 : Int} {v5 : Int} {σ : Sto} {res : Sto} (hnx7 : ∀ q, nx7 q = some res → Fr (Wr_X12_laysStretches) q.2 res) (hnx31 : ∀ q, nx31 q = some res → Fr (Wr_X12_laysStretches) q.2 res) (hnx45 : ∀ q, nx45 q = some res → Fr (Wr_X12_laysStretches) σ res) (hF : F_X12_laysStretches_B45 N nx7 nx31 nx45 v1 v2 v3 v4 v5 σ = some res) : Fr (Wr_X12_laysStretches) σ res := by
  unfold F_X12_laysStretches_B45 at hF
  by_cases c12 : (σ.1 94 11) ≤ v5
  · have hF := (if_pos c12).symm.trans hF
    exact fr_X12_laysStretches_J84 hnx7 hnx31 hF
  · have hF := (if_neg c12).symm.trans hF
    obtain ⟨q13, eq13, hF⟩ := bind_some' hF
    by_cases c14 : q13 = 0
    · have hF := (if_pos c14).symm.trans hF
      exact fr_X12_laysStretches_J75 hnx7 hnx31 hnx45 hF
    · have hF := (if_neg c14).symm.trans hF
      exact fr_X12_laysStretches_J75 hnx7 hnx31 hnx45 hF
theorem fr_X12_laysStretches_B31 {N : Nat}  {nx7 : (Int × Sto) → Option (Sto)} {nx31 : (Int × Sto) → Option (Sto)} {v1 : Int} {v2 : Int} {v3 : Int} {σ : Sto} {res : Sto} (hnx7 : ∀ q, nx7 q = some res → Fr (Wr_X12_laysStretches) q.2 res) (hnx31 : ∀ q, nx31 q = some res → Fr (Wr_X12_laysStretches) q.2 res) (hF : F_X12_laysStretches_B31 N nx7 nx31 v1 v2 v3 σ = some res) : Fr (Wr_X12_laysStretches) σ res := by
  unfold F_X12_laysStretches_B31 at hF
  by_cases c10 : (σ.1 94 11) ≤ v3
  · have hF := (if_pos c10).symm.trans hF
    exact fr_X12_laysStretches_J106 hnx7 hF
  · have hF := (if_neg c10).symm.trans hF
    exact (loopK_ind (res := res) (P := fun (q : Int × Int) => Fr (Wr_X12_laysStretches) σ res) (fun nx q hn hF => fr_X12_laysStretches_B45 hnx7 hnx31 hn hF) N _ hF)
theorem fr_X12_laysStretches_B7 {N : Nat}  {nx7 : (Int × Sto) → Option (Sto)} {v1 : Int} {v2 : Int} {σ : Sto} {res : Sto} (hnx7 : ∀ q, nx7 q = some res → Fr (Wr_X12_laysStretches) q.2 res) (hF : F_X12_laysStretches_B7 N nx7 v1 v2 σ = some res) : Fr (Wr_X12_laysStretches) σ res := by
  unfold F_X12_laysStretches_B7 at hF
  by_cases c2 : 1000 ≤ v2
  · have hF := (if_pos c2).symm.trans hF
    exact fr_X12_laysStretches_J175  hF
  · have hF := (if_neg c2).symm.trans hF
    obtain ⟨b3, hF⟩ := inb_some hF
    obtain ⟨q4, eq4, hF⟩ := bind_some' hF
    exact Fr_tr (Fr_tr (Fr_up Fr.rf (by unfold Wr_X12_laysStretches; omega)) (Fr_mono (fr_X12_laysShares eq4) (fun a j h => by unfold Wr_X12_laysShares at h; unfold Wr_X12_laysStretches; omega))) (loopK_ind (res := res) (P := fun (q : Int × Sto) => Fr (Wr_X12_laysStretches) q.2 res) (fun nx q hn hF => fr_X12_laysStretches_B31 hnx7 hn hF) N _ hF)
theorem fr_X12_laysStretches {N : Nat} {v1 : Int} {σ : Sto} {res : Sto} (hF : F_X12_laysStretches N v1 σ = some res) : Fr (Wr_X12_laysStretches) σ res := by
  unfold F_X12_laysStretches at hF
  exact Fr_tr (Fr_up Fr.rf (by unfold Wr_X12_laysStretches; omega)) (loopK_ind (res := res) (P := fun (q : Int × Sto) => Fr (Wr_X12_laysStretches) q.2 res) (fun nx q hn hF => fr_X12_laysStretches_B7 hn hF) N _ hF)
def Wr_X12_laysAll (a : Nat) (j : Int) : Prop := ((102 ≤ a ∧ a ≤ 106)) ∨ (a = 94 ∧ j = 30)
theorem fr_X12_laysAll_J168 {N : Nat}  {nx7 : (Int × Sto) → Option (Sto)} {v2 : Int} {v3 : Int} {σ : Sto} {res : Sto} (hnx7 : ∀ q, nx7 q = some res → Fr (Wr_X12_laysAll) q.2 res) (hF : F_X12_laysAll_J168 N nx7 v2 v3 σ = some res) : Fr (Wr_X12_laysAll) σ res := by
  unfold F_X12_laysAll_J168 at hF
  exact Fr_tr Fr.rf (hnx7 _ hF)
theorem fr_X12_laysAll_J161 {N : Nat}  {nx7 : (Int × Sto) → Option (Sto)} {nx86 : (Int × Sto) → Option (Sto)} {v2 : Int} {v3 : Int} {v4 : Int} {v5 : Int} {t1 : Int} {t2 : Int} {σ : Sto} {res : Sto} (hnx7 : ∀ q, nx7 q = some res → Fr (Wr_X12_laysAll) q.2 res) (hnx86 : ∀ q, nx86 q = some res → Fr (Wr_X12_laysAll) q.2 res) (hF : F_X12_laysAll_J161 N nx7 nx86 v2 v3 v4 v5 t1 t2 σ = some res) : Fr (Wr_X12_laysAll) σ res := by
  unfold F_X12_laysAll_J161 at hF
  obtain ⟨b5, hF⟩ := inb_some hF
  exact Fr_tr (Fr_up Fr.rf (by unfold Wr_X12_laysAll; omega)) (hnx86 _ hF)
theorem fr_X12_laysAll_J160 {N : Nat}  {nx7 : (Int × Sto) → Option (Sto)} {nx86 : (Int × Sto) → Option (Sto)} {v2 : Int} {v3 : Int} {v4 : Int} {v5 : Int} {t1 : Int} {σ : Sto} {res : Sto} (hnx7 : ∀ q, nx7 q = some res → Fr (Wr_X12_laysAll) q.2 res) (hnx86 : ∀ q, nx86 q = some res → Fr (Wr_X12_laysAll) q.2 res) (hF : F_X12_laysAll_J160 N nx7 nx86 v2 v3 v4 v5 t1 σ = some res) : Fr (Wr_X12_laysAll) σ res := by
  unfold F_X12_laysAll_J160 at hF
  exact fr_X12_laysAll_J161 hnx7 hnx86 hF
theorem fr_X12_laysAll_J156 {N : Nat}  {nx7 : (Int × Sto) → Option (Sto)} {nx86 : (Int × Sto) → Option (Sto)} {v2 : Int} {v3 : Int} {v4 : Int} {v5 : Int} {t1 : Int} {t2 : Int} {t3 : Int} {σ : Sto} {res : Sto} (hnx7 : ∀ q, nx7 q = some res → Fr (Wr_X12_laysAll) q.2 res) (hnx86 : ∀ q, nx86 q = some res → Fr (Wr_X12_laysAll) q.2 res) (hF : F_X12_laysAll_J156 N nx7 nx86 v2 v3 v4 v5 t1 t2 t3 σ = some res) : Fr (Wr_X12_laysAll) σ res := by
  unfold F_X12_laysAll_J156 at hF
  exact fr_X12_laysAll_J161 hnx7 hnx86 hF
theorem fr_X12_laysAll_B86 {N : Nat}  {nx7 : (Int × Sto) → Option (Sto)} {nx86 : (Int × Sto) → Option (Sto)} {v2 : Int} {v3 : Int} {v4 : Int} {v5 : Int} {σ : Sto} {res : Sto} (hnx7 : ∀ q, nx7 q = some res → Fr (Wr_X12_laysAll) q.2 res) (hnx86 : ∀ q, nx86 q = some res → Fr (Wr_X12_laysAll) q.2 res) (hF : F_X12_laysAll_B86 N nx7 nx86 v2 v3 v4 v5 σ = some res) : Fr (Wr_X12_laysAll) σ res := by
  unfold F_X12_laysAll_B86 at hF
  by_cases c4 : (σ.1 94 14) ≤ v5
  · have hF := (if_pos c4).symm.trans hF
    exact fr_X12_laysAll_J168 hnx7 hF
  · have hF := (if_neg c4).symm.trans hF
    by_cases c6 : v4 = 0
    · have hF := (if_pos c6).symm.trans hF
      exact fr_X12_laysAll_J160 hnx7 hnx86 hF
    · have hF := (if_neg c6).symm.trans hF
      obtain ⟨q7, eq7, hF⟩ := bind_some' hF
      by_cases c8 : q7 = (σ.1 94 38)
      · have hF := (if_pos c8).symm.trans hF
        exact fr_X12_laysAll_J160 hnx7 hnx86 hF
      · have hF := (if_neg c8).symm.trans hF
        obtain ⟨q9, eq9, hF⟩ := bind_some' hF
        by_cases c10 : q9 = 0
        · have hF := (if_pos c10).symm.trans hF
          exact fr_X12_laysAll_J160 hnx7 hnx86 hF
        · have hF := (if_neg c10).symm.trans hF
          obtain ⟨q11, eq11, hF⟩ := bind_some' hF
          by_cases c12 : v2 = 0
          · have hF := (if_pos c12).symm.trans hF
            exact fr_X12_laysAll_J156 hnx7 hnx86 hF
          · have hF := (if_neg c12).symm.trans hF
            obtain ⟨q13, eq13, hF⟩ := bind_some' hF
            exact fr_X12_laysAll_J156 hnx7 hnx86 hF
theorem fr_X12_laysAll_J82 {N : Nat}  {nx7 : (Int × Sto) → Option (Sto)} {v2 : Int} {v3 : Int} {v4 : Int} {t1 : Int} {t2 : Int} {σ : Sto} {res : Sto} (hnx7 : ∀ q, nx7 q = some res → Fr (Wr_X12_laysAll) q.2 res) (hF : F_X12_laysAll_J82 N nx7 v2 v3 v4 t1 t2 σ = some res) : Fr (Wr_X12_laysAll) σ res := by
  unfold F_X12_laysAll_J82 at hF
  obtain ⟨b3, hF⟩ := inb_some hF
  exact Fr_tr (Fr_up Fr.rf (by unfold Wr_X12_laysAll; omega)) (loopK_ind (res := res) (P := fun (q : Int × Sto) => Fr (Wr_X12_laysAll) q.2 res) (fun nx q hn hF => fr_X12_laysAll_B86 hnx7 hn hF) N _ hF)
theorem fr_X12_laysAll_J32 {N : Nat}  {nx7 : (Int × Sto) → Option (Sto)} {v2 : Int} {v3 : Int} {t0 : Int} {σ : Sto} {res : Sto} (hnx7 : ∀ q, nx7 q = some res → Fr (Wr_X12_laysAll) q.2 res) (hF : F_X12_laysAll_J32 N nx7 v2 v3 t0 σ = some res) : Fr (Wr_X12_laysAll) σ res := by
  unfold F_X12_laysAll_J32 at hF
  by_cases c14 : t0 = 0
  · have hF := (if_pos c14).symm.trans hF
    exact fr_X12_laysAll_J82 hnx7 hF
  · have hF := (if_neg c14).symm.trans hF
    by_cases c15 : v2 = 0
    · have hF := (if_pos c15).symm.trans hF
      obtain ⟨q16, eq16, hF⟩ := bind_some' hF
      by_cases c17 : 0 ≤ q16
      · have hF := (if_pos c17).symm.trans hF
        obtain ⟨q18, eq18, hF⟩ := bind_some' hF
        exact fr_X12_laysAll_J82 hnx7 hF
      · have hF := (if_neg c17).symm.trans hF
        obtain ⟨q19, eq19, hF⟩ := bind_some' hF
        exact fr_X12_laysAll_J82 hnx7 hF
    · have hF := (if_neg c15).symm.trans hF
      obtain ⟨q20, eq20, hF⟩ := bind_some' hF
      exact fr_X12_laysAll_J82 hnx7 hF
theorem fr_X12_laysAll_B7 {N : Nat}  {nx7 : (Int × Sto) → Option (Sto)} {v2 : Int} {v3 : Int} {σ : Sto} {res : Sto} (hnx7 : ∀ q, nx7 q = some res → Fr (Wr_X12_laysAll) q.2 res) (hF : F_X12_laysAll_B7 N nx7 v2 v3 σ = some res) : Fr (Wr_X12_laysAll) σ res := by
  unfold F_X12_laysAll_B7 at hF
  by_cases c2 : (σ.1 94 14) ≤ v3
  · have hF := (if_pos c2).symm.trans hF
    obtain rfl := Option.some.inj hF
    exact Fr.rf
  · have hF := (if_neg c2).symm.trans hF
    obtain ⟨q21, eq21, hF⟩ := bind_some' hF
    by_cases c22 : q21 = (σ.1 94 38)
    · have hF := (if_pos c22).symm.trans hF
      exact fr_X12_laysAll_J32 hnx7 hF
    · have hF := (if_neg c22).symm.trans hF
      exact fr_X12_laysAll_J32 hnx7 hF
theorem fr_X12_laysAll {N : Nat} {v1 : Int} {v2 : Int} {σ : Sto} {res : Sto} (hF : F_X12_laysAll N v1 v2 σ = some res) : Fr (Wr_X12_laysAll) σ res := by
  unfold F_X12_laysAll at hF
  obtain ⟨q1, eq1, hF⟩ := bind_some' hF
  exact Fr_tr (Fr_tr Fr.rf (Fr_mono (fr_X12_laysStretches eq1) (fun a j h => by unfold Wr_X12_laysStretches at h; unfold Wr_X12_laysAll; omega))) (loopK_ind (res := res) (P := fun (q : Int × Sto) => Fr (Wr_X12_laysAll) q.2 res) (fun nx q hn hF => fr_X12_laysAll_B7 hn hF) N _ hF)
def Wr_X12_goes (a : Nat) (j : Int) : Prop := ((108 ≤ a ∧ a ≤ 110))
theorem fr_X12_goes_J119 {N : Nat}   {v1 : Int} {v2 : Int} {σ : Sto} {res : Int × Sto} (hF : F_X12_goes_J119 N  v1 v2 σ = some res) : Fr (Wr_X12_goes) σ res.2 := by
  unfold F_X12_goes_J119 at hF
  obtain ⟨b7, hF⟩ := inb_some hF
  obtain ⟨b8, hF⟩ := inb_some hF
  obtain rfl := Option.some.inj hF
  exact (Fr_up Fr.rf (by unfold Wr_X12_goes; omega))
theorem fr_X12_goes_B78 {N : Nat}  {nx78 : (Int × Sto) → Option (Int × Sto)} {v1 : Int} {v2 : Int} {v4 : Int} {σ : Sto} {res : Int × Sto} (hnx78 : ∀ q, nx78 q = some res → Fr (Wr_X12_goes) q.2 res.2) (hF : F_X12_goes_B78 N nx78 v1 v2 v4 σ = some res) : Fr (Wr_X12_goes) σ res.2 := by
  unfold F_X12_goes_B78 at hF
  obtain ⟨b9, hF⟩ := inb_some hF
  by_cases c10 : (σ.1 109 v1) ≤ v4
  · have hF := (if_pos c10).symm.trans hF
    exact fr_X12_goes_J119  hF
  · have hF := (if_neg c10).symm.trans hF
    obtain ⟨b11, hF⟩ := inb_some hF
    obtain ⟨b12, hF⟩ := inb_some hF
    exact Fr_tr (Fr_up Fr.rf (by unfold Wr_X12_goes; omega)) (hnx78 _ hF)
theorem fr_X12_goes {N : Nat} {v1 : Int} {v2 : Int} {v3 : Int} {σ : Sto} {res : Int × Sto} (hF : F_X12_goes N v1 v2 v3 σ = some res) : Fr (Wr_X12_goes) σ res.2 := by
  unfold F_X12_goes at hF
  obtain ⟨b1, hF⟩ := inb_some hF
  by_cases c2 : (σ.1 109 v1) = 0
  · have hF := (if_pos c2).symm.trans hF
    obtain rfl := Option.some.inj hF
    exact Fr.rf
  · have hF := (if_neg c2).symm.trans hF
    by_cases c3 : (σ.1 109 v1) = 12
    · have hF := (if_pos c3).symm.trans hF
      obtain rfl := Option.some.inj hF
      exact Fr.rf
    · have hF := (if_neg c3).symm.trans hF
      obtain ⟨q4, eq4, hF⟩ := bind_some' hF
      by_cases c5 : q4 = 0
      · have hF := (if_pos c5).symm.trans hF
        obtain rfl := Option.some.inj hF
        exact Fr.rf
      · have hF := (if_neg c5).symm.trans hF
        obtain ⟨b6, hF⟩ := inb_some hF
        exact Fr_tr (Fr_up (Fr_up Fr.rf (by unfold Wr_X12_goes; omega)) (by unfold Wr_X12_goes; omega)) (loopK_ind (res := res) (P := fun (q : Int × Sto) => Fr (Wr_X12_goes) q.2 res.2) (fun nx q hn hF => fr_X12_goes_B78 hn hF) N _ hF)
def Wr_X12_laysRoutes (a : Nat) (j : Int) : Prop := ((108 ≤ a ∧ a ≤ 110))
theorem fr_X12_laysRoutes_J164 {N : Nat}  {nx63 : (Int × Sto) → Option (Sto)} {v1 : Int} {σ : Sto} {res : Sto} (hnx63 : ∀ q, nx63 q = some res → Fr (Wr_X12_laysRoutes) q.2 res) (hF : F_X12_laysRoutes_J164 N nx63 v1 σ = some res) : Fr (Wr_X12_laysRoutes) σ res := by
  unfold F_X12_laysRoutes_J164 at hF
  exact Fr_tr Fr.rf (hnx63 _ hF)
theorem fr_X12_laysRoutes_J158 {N : Nat}  {nx63 : (Int × Sto) → Option (Sto)} {nx71 : (Int × Int × Sto) → Option (Sto)} {v1 : Int} {v2 : Int} {σ : Sto} {res : Sto} (hnx63 : ∀ q, nx63 q = some res → Fr (Wr_X12_laysRoutes) q.2 res) (hnx71 : ∀ q, nx71 q = some res → Fr (Wr_X12_laysRoutes) q.2.2 res) (hF : F_X12_laysRoutes_J158 N nx63 nx71 v1 v2 σ = some res) : Fr (Wr_X12_laysRoutes) σ res := by
  unfold F_X12_laysRoutes_J158 at hF
  exact Fr_tr Fr.rf (hnx71 _ hF)
theorem fr_X12_laysRoutes_J152 {N : Nat}  {nx63 : (Int × Sto) → Option (Sto)} {nx71 : (Int × Int × Sto) → Option (Sto)} {nx81 : (Int × Int × Sto) → Option (Sto)} {v1 : Int} {v2 : Int} {v3 : Int} {σ : Sto} {res : Sto} (hnx63 : ∀ q, nx63 q = some res → Fr (Wr_X12_laysRoutes) q.2 res) (hnx71 : ∀ q, nx71 q = some res → Fr (Wr_X12_laysRoutes) q.2.2 res) (hnx81 : ∀ q, nx81 q = some res → Fr (Wr_X12_laysRoutes) q.2.2 res) (hF : F_X12_laysRoutes_J152 N nx63 nx71 nx81 v1 v2 v3 σ = some res) : Fr (Wr_X12_laysRoutes) σ res := by
  unfold F_X12_laysRoutes_J152 at hF
  exact Fr_tr Fr.rf (hnx81 _ hF)
theorem fr_X12_laysRoutes_J120 {N : Nat}  {nx63 : (Int × Sto) → Option (Sto)} {nx71 : (Int × Int × Sto) → Option (Sto)} {nx81 : (Int × Int × Sto) → Option (Sto)} {v1 : Int} {v2 : Int} {v3 : Int} {σ : Sto} {res : Sto} (hnx63 : ∀ q, nx63 q = some res → Fr (Wr_X12_laysRoutes) q.2 res) (hnx71 : ∀ q, nx71 q = some res → Fr (Wr_X12_laysRoutes) q.2.2 res) (hnx81 : ∀ q, nx81 q = some res → Fr (Wr_X12_laysRoutes) q.2.2 res) (hF : F_X12_laysRoutes_J120 N nx63 nx71 nx81 v1 v2 v3 σ = some res) : Fr (Wr_X12_laysRoutes) σ res := by
  unfold F_X12_laysRoutes_J120 at hF
  obtain ⟨b4, hF⟩ := inb_some hF
  by_cases c5 : (σ.1 107 (ja (jm 12 v2) v3)) ≤ 0
  · have hF := (if_pos c5).symm.trans hF
    exact fr_X12_laysRoutes_J152 hnx63 hnx71 hnx81 hF
  · have hF := (if_neg c5).symm.trans hF
    obtain ⟨q6, eq6, hF⟩ := bind_some' hF
    obtain ⟨q7, eq7, hF⟩ := bind_some' hF
    by_cases c8 : q7.1 = 0
    · have hF := (if_pos c8).symm.trans hF
      exact Fr_tr (Fr_tr Fr.rf (Fr_mono (fr_X12_goes eq7) (fun a j h => by unfold Wr_X12_goes at h; unfold Wr_X12_laysRoutes; omega))) (fr_X12_laysRoutes_J152 hnx63 hnx71 hnx81 hF)
    · have hF := (if_neg c8).symm.trans hF
      exact Fr_tr (Fr_tr Fr.rf (Fr_mono (fr_X12_goes eq7) (fun a j h => by unfold Wr_X12_goes at h; unfold Wr_X12_laysRoutes; omega))) (fr_X12_laysRoutes_J152 hnx63 hnx71 hnx81 hF)
theorem fr_X12_laysRoutes_B81 {N : Nat}  {nx63 : (Int × Sto) → Option (Sto)} {nx71 : (Int × Int × Sto) → Option (Sto)} {nx81 : (Int × Int × Sto) → Option (Sto)} {v2 : Int} {v1 : Int} {v3 : Int} {σ : Sto} {res : Sto} (hnx63 : ∀ q, nx63 q = some res → Fr (Wr_X12_laysRoutes) q.2 res) (hnx71 : ∀ q, nx71 q = some res → Fr (Wr_X12_laysRoutes) q.2.2 res) (hnx81 : ∀ q, nx81 q = some res → Fr (Wr_X12_laysRoutes) q.2.2 res) (hF : F_X12_laysRoutes_B81 N nx63 nx71 nx81 v2 v1 v3 σ = some res) : Fr (Wr_X12_laysRoutes) σ res := by
  unfold F_X12_laysRoutes_B81 at hF
  by_cases c3 : (σ.1 94 14) ≤ v3
  · have hF := (if_pos c3).symm.trans hF
    exact fr_X12_laysRoutes_J158 hnx63 hnx71 hF
  · have hF := (if_neg c3).symm.trans hF
    obtain ⟨b9, hF⟩ := inb_some hF
    by_cases c10 : (σ.1 106 (ja (jm 12 v2) v3)) ≤ 0
    · have hF := (if_pos c10).symm.trans hF
      exact fr_X12_laysRoutes_J120 hnx63 hnx71 hnx81 hF
    · have hF := (if_neg c10).symm.trans hF
      obtain ⟨q11, eq11, hF⟩ := bind_some' hF
      obtain ⟨q12, eq12, hF⟩ := bind_some' hF
      by_cases c13 : q12.1 = 0
      · have hF := (if_pos c13).symm.trans hF
        exact Fr_tr (Fr_tr Fr.rf (Fr_mono (fr_X12_goes eq12) (fun a j h => by unfold Wr_X12_goes at h; unfold Wr_X12_laysRoutes; omega))) (fr_X12_laysRoutes_J120 hnx63 hnx71 hnx81 hF)
      · have hF := (if_neg c13).symm.trans hF
        exact Fr_tr (Fr_tr Fr.rf (Fr_mono (fr_X12_goes eq12) (fun a j h => by unfold Wr_X12_goes at h; unfold Wr_X12_laysRoutes; omega))) (fr_X12_laysRoutes_J120 hnx63 hnx71 hnx81 hF)
theorem fr_X12_laysRoutes_B71 {N : Nat}  {nx63 : (Int × Sto) → Option (Sto)} {nx71 : (Int × Int × Sto) → Option (Sto)} {v1 : Int} {v2 : Int} {σ : Sto} {res : Sto} (hnx63 : ∀ q, nx63 q = some res → Fr (Wr_X12_laysRoutes) q.2 res) (hnx71 : ∀ q, nx71 q = some res → Fr (Wr_X12_laysRoutes) q.2.2 res) (hF : F_X12_laysRoutes_B71 N nx63 nx71 v1 v2 σ = some res) : Fr (Wr_X12_laysRoutes) σ res := by
  unfold F_X12_laysRoutes_B71 at hF
  by_cases c2 : (σ.1 94 14) ≤ v2
  · have hF := (if_pos c2).symm.trans hF
    exact fr_X12_laysRoutes_J164 hnx63 hF
  · have hF := (if_neg c2).symm.trans hF
    exact (loopK_ind (res := res) (P := fun (q : Int × Int × Sto) => Fr (Wr_X12_laysRoutes) q.2.2 res) (fun nx q hn hF => fr_X12_laysRoutes_B81 hnx63 hnx71 hn hF) N _ hF)
theorem fr_X12_laysRoutes_B63 {N : Nat}  {nx63 : (Int × Sto) → Option (Sto)} {v1 : Int} {σ : Sto} {res : Sto} (hnx63 : ∀ q, nx63 q = some res → Fr (Wr_X12_laysRoutes) q.2 res) (hF : F_X12_laysRoutes_B63 N nx63 v1 σ = some res) : Fr (Wr_X12_laysRoutes) σ res := by
  unfold F_X12_laysRoutes_B63 at hF
  by_cases c1 : v1 = 0
  · have hF := (if_pos c1).symm.trans hF
    obtain rfl := Option.some.inj hF
    exact Fr.rf
  · have hF := (if_neg c1).symm.trans hF
    exact (loopK_ind (res := res) (P := fun (q : Int × Int × Sto) => Fr (Wr_X12_laysRoutes) q.2.2 res) (fun nx q hn hF => fr_X12_laysRoutes_B71 hnx63 hn hF) N _ hF)
theorem fr_X12_laysRoutes_J61 {N : Nat}    {σ : Sto} {res : Sto} (hF : F_X12_laysRoutes_J61 N   σ = some res) : Fr (Wr_X12_laysRoutes) σ res := by
  unfold F_X12_laysRoutes_J61 at hF
  exact (loopK_ind (res := res) (P := fun (q : Int × Sto) => Fr (Wr_X12_laysRoutes) q.2 res) (fun nx q hn hF => fr_X12_laysRoutes_B63 hn hF) N _ hF)
theorem fr_X12_laysRoutes_J37 {N : Nat}  {nx2 : (Int × Sto) → Option (Sto)} {v1 : Int} {t1 : Int} {t2 : Int} {σ : Sto} {res : Sto} (hnx2 : ∀ q, nx2 q = some res → Fr (Wr_X12_laysRoutes) q.2 res) (hF : F_X12_laysRoutes_J37 N nx2 v1 t1 t2 σ = some res) : Fr (Wr_X12_laysRoutes) σ res := by
  unfold F_X12_laysRoutes_J37 at hF
  obtain ⟨b15, hF⟩ := inb_some hF
  obtain ⟨b16, hF⟩ := inb_some hF
  obtain ⟨b17, hF⟩ := inb_some hF
  exact Fr_tr (Fr_up (Fr_up (Fr_up Fr.rf (by unfold Wr_X12_laysRoutes; omega)) (by unfold Wr_X12_laysRoutes; omega)) (by unfold Wr_X12_laysRoutes; omega)) (hnx2 _ hF)
theorem fr_X12_laysRoutes_J36 {N : Nat}  {nx2 : (Int × Sto) → Option (Sto)} {v1 : Int} {t1 : Int} {σ : Sto} {res : Sto} (hnx2 : ∀ q, nx2 q = some res → Fr (Wr_X12_laysRoutes) q.2 res) (hF : F_X12_laysRoutes_J36 N nx2 v1 t1 σ = some res) : Fr (Wr_X12_laysRoutes) σ res := by
  unfold F_X12_laysRoutes_J36 at hF
  exact fr_X12_laysRoutes_J37 hnx2 hF
theorem fr_X12_laysRoutes_B2 {N : Nat}  {nx2 : (Int × Sto) → Option (Sto)} {v1 : Int} {σ : Sto} {res : Sto} (hnx2 : ∀ q, nx2 q = some res → Fr (Wr_X12_laysRoutes) q.2 res) (hF : F_X12_laysRoutes_B2 N nx2 v1 σ = some res) : Fr (Wr_X12_laysRoutes) σ res := by
  unfold F_X12_laysRoutes_B2 at hF
  by_cases c14 : (σ.1 94 14) ≤ v1
  · have hF := (if_pos c14).symm.trans hF
    exact fr_X12_laysRoutes_J61  hF
  · have hF := (if_neg c14).symm.trans hF
    obtain ⟨q18, eq18, hF⟩ := bind_some' hF
    by_cases c19 : 0 ≤ q18
    · have hF := (if_pos c19).symm.trans hF
      exact fr_X12_laysRoutes_J36 hnx2 hF
    · have hF := (if_neg c19).symm.trans hF
      obtain ⟨b20, hF⟩ := inb_some hF
      by_cases c21 : (σ.1 105 v1) ≤ 0
      · have hF := (if_pos c21).symm.trans hF
        exact fr_X12_laysRoutes_J36 hnx2 hF
      · have hF := (if_neg c21).symm.trans hF
        exact fr_X12_laysRoutes_J37 hnx2 hF
theorem fr_X12_laysRoutes {N : Nat}  {σ : Sto} {res : Sto} (hF : F_X12_laysRoutes N  σ = some res) : Fr (Wr_X12_laysRoutes) σ res := by
  unfold F_X12_laysRoutes at hF
  exact (loopK_ind (res := res) (P := fun (q : Int × Sto) => Fr (Wr_X12_laysRoutes) q.2 res) (fun nx q hn hF => fr_X12_laysRoutes_B2 hn hF) N _ hF)
def Wr_X12_relieves (a : Nat) (j : Int) : Prop := ((105 ≤ a ∧ a ≤ 110)) ∨ (a = 94 ∧ j = 37)
theorem fr_X12_relieves_J315 {N : Nat}  {nx29 : (Int × Sto) → Option (Int × Sto)} {v1 : Int} {v2 : Int} {v3 : Int} {v4 : Int} {σ : Sto} {res : Int × Sto} (hnx29 : ∀ q, nx29 q = some res → Fr (Wr_X12_relieves) q.2 res.2) (hF : F_X12_relieves_J315 N nx29 v1 v2 v3 v4 σ = some res) : Fr (Wr_X12_relieves) σ res.2 := by
  unfold F_X12_relieves_J315 at hF
  obtain ⟨b4, hF⟩ := inb_some hF
  obtain ⟨b5, hF⟩ := inb_some hF
  exact Fr_tr (Fr_up (Fr_up (Fr_up Fr.rf (by unfold Wr_X12_relieves; omega)) (by unfold Wr_X12_relieves; omega)) (by unfold Wr_X12_relieves; omega)) (hnx29 _ hF)
theorem fr_X12_relieves_J283 {N : Nat}  {nx29 : (Int × Sto) → Option (Int × Sto)} {nx195 : (Int × Sto) → Option (Int × Sto)} {v1 : Int} {v2 : Int} {v3 : Int} {v4 : Int} {v5 : Int} {v8 : Int} {t0 : Int} {σ : Sto} {res : Int × Sto} (hnx29 : ∀ q, nx29 q = some res → Fr (Wr_X12_relieves) q.2 res.2) (hnx195 : ∀ q, nx195 q = some res → Fr (Wr_X12_relieves) q.2 res.2) (hF : F_X12_relieves_J283 N nx29 nx195 v1 v2 v3 v4 v5 v8 t0 σ = some res) : Fr (Wr_X12_relieves) σ res.2 := by
  unfold F_X12_relieves_J283 at hF
  obtain ⟨b8, hF⟩ := inb_some hF
  exact Fr_tr (Fr_up (Fr_up Fr.rf (by unfold Wr_X12_relieves; omega)) (by unfold Wr_X12_relieves; omega)) (hnx195 _ hF)
theorem fr_X12_relieves_J264 {N : Nat}  {nx29 : (Int × Sto) → Option (Int × Sto)} {nx195 : (Int × Sto) → Option (Int × Sto)} {v1 : Int} {v2 : Int} {v3 : Int} {v4 : Int} {v5 : Int} {v6 : Int} {t0 : Int} {σ : Sto} {res : Int × Sto} (hnx29 : ∀ q, nx29 q = some res → Fr (Wr_X12_relieves) q.2 res.2) (hnx195 : ∀ q, nx195 q = some res → Fr (Wr_X12_relieves) q.2 res.2) (hF : F_X12_relieves_J264 N nx29 nx195 v1 v2 v3 v4 v5 v6 t0 σ = some res) : Fr (Wr_X12_relieves) σ res.2 := by
  unfold F_X12_relieves_J264 at hF
  obtain ⟨q9, eq9, hF⟩ := bind_some' hF
  by_cases c10 : 0 ≤ q9
  · have hF := (if_pos c10).symm.trans hF
    exact fr_X12_relieves_J283 hnx29 hnx195 hF
  · have hF := (if_neg c10).symm.trans hF
    exact fr_X12_relieves_J283 hnx29 hnx195 hF
theorem fr_X12_relieves_B195 {N : Nat}  {nx29 : (Int × Sto) → Option (Int × Sto)} {nx195 : (Int × Sto) → Option (Int × Sto)} {v1 : Int} {v2 : Int} {v3 : Int} {v4 : Int} {v5 : Int} {σ : Sto} {res : Int × Sto} (hnx29 : ∀ q, nx29 q = some res → Fr (Wr_X12_relieves) q.2 res.2) (hnx195 : ∀ q, nx195 q = some res → Fr (Wr_X12_relieves) q.2 res.2) (hF : F_X12_relieves_B195 N nx29 nx195 v1 v2 v3 v4 v5 σ = some res) : Fr (Wr_X12_relieves) σ res.2 := by
  unfold F_X12_relieves_B195 at hF
  obtain ⟨b6, hF⟩ := inb_some hF
  by_cases c7 : (σ.1 109 v2) ≤ v5
  · have hF := (if_pos c7).symm.trans hF
    exact fr_X12_relieves_J315 hnx29 hF
  · have hF := (if_neg c7).symm.trans hF
    obtain ⟨b11, hF⟩ := inb_some hF
    obtain ⟨b12, hF⟩ := inb_some hF
    obtain ⟨q13, eq13, hF⟩ := bind_some' hF
    by_cases c14 : 0 ≤ q13
    · have hF := (if_pos c14).symm.trans hF
      exact fr_X12_relieves_J264 hnx29 hnx195 hF
    · have hF := (if_neg c14).symm.trans hF
      exact fr_X12_relieves_J264 hnx29 hnx195 hF
theorem fr_X12_relieves_J192 {N : Nat}  {nx29 : (Int × Sto) → Option (Int × Sto)} {v1 : Int} {v2 : Int} {v3 : Int} {v4 : Int} {σ : Sto} {res : Int × Sto} (hnx29 : ∀ q, nx29 q = some res → Fr (Wr_X12_relieves) q.2 res.2) (hF : F_X12_relieves_J192 N nx29 v1 v2 v3 v4 σ = some res) : Fr (Wr_X12_relieves) σ res.2 := by
  unfold F_X12_relieves_J192 at hF
  exact (loopK_ind (res := res) (P := fun (q : Int × Sto) => Fr (Wr_X12_relieves) q.2 res.2) (fun nx q hn hF => fr_X12_relieves_B195 hnx29 hn hF) N _ hF)
theorem fr_X12_relieves_J184 {N : Nat}  {nx29 : (Int × Sto) → Option (Int × Sto)} {nx89 : (Int × Int) → Option (Int × Sto)} {v1 : Int} {v2 : Int} {v3 : Int} {v5 : Int} {t0 : Int} {σ : Sto} {res : Int × Sto} (hnx29 : ∀ q, nx29 q = some res → Fr (Wr_X12_relieves) q.2 res.2) (hnx89 : ∀ q, nx89 q = some res → Fr (Wr_X12_relieves) σ res.2) (hF : F_X12_relieves_J184 N nx29 nx89 v1 v2 v3 v5 t0 σ = some res) : Fr (Wr_X12_relieves) σ res.2 := by
  unfold F_X12_relieves_J184 at hF
  exact hnx89 _ hF
theorem fr_X12_relieves_J168 {N : Nat}  {nx29 : (Int × Sto) → Option (Int × Sto)} {nx89 : (Int × Int) → Option (Int × Sto)} {v1 : Int} {v2 : Int} {v3 : Int} {v4 : Int} {v5 : Int} {t0 : Int} {σ : Sto} {res : Int × Sto} (hnx29 : ∀ q, nx29 q = some res → Fr (Wr_X12_relieves) q.2 res.2) (hnx89 : ∀ q, nx89 q = some res → Fr (Wr_X12_relieves) σ res.2) (hF : F_X12_relieves_J168 N nx29 nx89 v1 v2 v3 v4 v5 t0 σ = some res) : Fr (Wr_X12_relieves) σ res.2 := by
  unfold F_X12_relieves_J168 at hF
  by_cases c17 : v4 ≤ t0
  · have hF := (if_pos c17).symm.trans hF
    exact fr_X12_relieves_J184 hnx29 hnx89 hF
  · have hF := (if_neg c17).symm.trans hF
    exact fr_X12_relieves_J184 hnx29 hnx89 hF
theorem fr_X12_relieves_B89 {N : Nat}  {nx29 : (Int × Sto) → Option (Int × Sto)} {nx89 : (Int × Int) → Option (Int × Sto)} {v1 : Int} {v2 : Int} {v3 : Int} {v4 : Int} {v5 : Int} {σ : Sto} {res : Int × Sto} (hnx29 : ∀ q, nx29 q = some res → Fr (Wr_X12_relieves) q.2 res.2) (hnx89 : ∀ q, nx89 q = some res → Fr (Wr_X12_relieves) σ res.2) (hF : F_X12_relieves_B89 N nx29 nx89 v1 v2 v3 v4 v5 σ = some res) : Fr (Wr_X12_relieves) σ res.2 := by
  unfold F_X12_relieves_B89 at hF
  obtain ⟨b15, hF⟩ := inb_some hF
  by_cases c16 : (σ.1 109 v2) ≤ v5
  · have hF := (if_pos c16).symm.trans hF
    exact fr_X12_relieves_J192 hnx29 hF
  · have hF := (if_neg c16).symm.trans hF
    obtain ⟨b18, hF⟩ := inb_some hF
    obtain ⟨b19, hF⟩ := inb_some hF
    obtain ⟨q20, eq20, hF⟩ := bind_some' hF
    by_cases c21 : 0 ≤ q20
    · have hF := (if_pos c21).symm.trans hF
      obtain ⟨b22, hF⟩ := inb_some hF
      exact fr_X12_relieves_J168 hnx29 hnx89 hF
    · have hF := (if_neg c21).symm.trans hF
      obtain ⟨b23, hF⟩ := inb_some hF
      exact fr_X12_relieves_J168 hnx29 hnx89 hF
theorem fr_X12_relieves_J84 {N : Nat}  {nx29 : (Int × Sto) → Option (Int × Sto)} {v1 : Int} {v2 : Int} {v3 : Int} {t0 : Int} {σ : Sto} {res : Int × Sto} (hnx29 : ∀ q, nx29 q = some res → Fr (Wr_X12_relieves) q.2 res.2) (hF : F_X12_relieves_J84 N nx29 v1 v2 v3 t0 σ = some res) : Fr (Wr_X12_relieves) σ res.2 := by
  unfold F_X12_relieves_J84 at hF
  exact (loopK_ind (res := res) (P := fun (q : Int × Int) => Fr (Wr_X12_relieves) σ res.2) (fun nx q hn hF => fr_X12_relieves_B89 hnx29 hn hF) N _ hF)
theorem fr_X12_relieves_B29 {N : Nat}  {nx29 : (Int × Sto) → Option (Int × Sto)} {v1 : Int} {σ : Sto} {res : Int × Sto} (hnx29 : ∀ q, nx29 q = some res → Fr (Wr_X12_relieves) q.2 res.2) (hF : F_X12_relieves_B29 N nx29 v1 σ = some res) : Fr (Wr_X12_relieves) σ res.2 := by
  unfold F_X12_relieves_B29 at hF
  obtain ⟨q1, eq1, hF⟩ := bind_some' hF
  obtain ⟨q2, eq2, hF⟩ := bind_some' hF
  by_cases c3 : 0 ≤ q2
  · have hF := (if_pos c3).symm.trans hF
    obtain ⟨b24, hF⟩ := inb_some hF
    obtain ⟨b25, hF⟩ := inb_some hF
    obtain ⟨b26, hF⟩ := inb_some hF
    by_cases c27 : (q1.1 105 q2) ≤ (q1.1 105 (q1.1 110 (jm 12 q2)))
    · have hF := (if_pos c27).symm.trans hF
      exact Fr_tr (Fr_tr Fr.rf (Fr_mono (fr_X12_laysRoutes eq1) (fun a j h => by unfold Wr_X12_laysRoutes at h; unfold Wr_X12_relieves; omega))) (fr_X12_relieves_J84 hnx29 hF)
    · have hF := (if_neg c27).symm.trans hF
      exact Fr_tr (Fr_tr Fr.rf (Fr_mono (fr_X12_laysRoutes eq1) (fun a j h => by unfold Wr_X12_laysRoutes at h; unfold Wr_X12_relieves; omega))) (fr_X12_relieves_J84 hnx29 hF)
  · have hF := (if_neg c3).symm.trans hF
    obtain rfl := Option.some.inj hF
    exact (Fr_tr Fr.rf (Fr_mono (fr_X12_laysRoutes eq1) (fun a j h => by unfold Wr_X12_laysRoutes at h; unfold Wr_X12_relieves; omega)))
theorem fr_X12_relieves_J22 {N : Nat}    {σ : Sto} {res : Int × Sto} (hF : F_X12_relieves_J22 N   σ = some res) : Fr (Wr_X12_relieves) σ res.2 := by
  unfold F_X12_relieves_J22 at hF
  exact Fr_tr (Fr_up Fr.rf (by unfold Wr_X12_relieves; omega)) (loopK_ind (res := res) (P := fun (q : Int × Sto) => Fr (Wr_X12_relieves) q.2 res.2) (fun nx q hn hF => fr_X12_relieves_B29 hn hF) N _ hF)
theorem fr_X12_relieves_B2 {N : Nat}  {nx2 : (Int × Sto) → Option (Int × Sto)} {v1 : Int} {σ : Sto} {res : Int × Sto} (hnx2 : ∀ q, nx2 q = some res → Fr (Wr_X12_relieves) q.2 res.2) (hF : F_X12_relieves_B2 N nx2 v1 σ = some res) : Fr (Wr_X12_relieves) σ res.2 := by
  unfold F_X12_relieves_B2 at hF
  by_cases c28 : 144 ≤ v1
  · have hF := (if_pos c28).symm.trans hF
    exact fr_X12_relieves_J22  hF
  · have hF := (if_neg c28).symm.trans hF
    obtain ⟨b29, hF⟩ := inb_some hF
    exact Fr_tr (Fr_up Fr.rf (by unfold Wr_X12_relieves; omega)) (hnx2 _ hF)
theorem fr_X12_relieves {N : Nat}  {σ : Sto} {res : Int × Sto} (hF : F_X12_relieves N  σ = some res) : Fr (Wr_X12_relieves) σ res.2 := by
  unfold F_X12_relieves at hF
  exact (loopK_ind (res := res) (P := fun (q : Int × Sto) => Fr (Wr_X12_relieves) q.2 res.2) (fun nx q hn hF => fr_X12_relieves_B2 hn hF) N _ hF)
def Wr_X12_solves (a : Nat) (j : Int) : Prop := ((102 ≤ a ∧ a ≤ 110)) ∨ (a = 94 ∧ j = 30) ∨ (a = 94 ∧ j = 37)
theorem fr_X12_solves {N : Nat}  {σ : Sto} {res : Int × Sto} (hF : F_X12_solves N  σ = some res) : Fr (Wr_X12_solves) σ res.2 := by
  unfold F_X12_solves at hF
  obtain ⟨b1, hF⟩ := inb_some hF
  obtain ⟨q2, eq2, hF⟩ := bind_some' hF
  obtain ⟨q3, eq3, hF⟩ := bind_some' hF
  obtain rfl := Option.some.inj hF
  exact (Fr_tr (Fr_tr Fr.rf (Fr_mono (fr_X12_laysAll eq2) (fun a j h => by unfold Wr_X12_laysAll at h; unfold Wr_X12_solves; omega))) (Fr_mono (fr_X12_relieves eq3) (fun a j h => by unfold Wr_X12_relieves at h; unfold Wr_X12_solves; omega)))
def Wr_X12_claims (a : Nat) (j : Int) : Prop := (a = 101)
theorem fr_X12_claims {N : Nat} {v1 : Int} {v2 : Int} {v3 : Int} {σ : Sto} {res : Sto} (hF : F_X12_claims N v1 v2 v3 σ = some res) : Fr (Wr_X12_claims) σ res := by
  unfold F_X12_claims at hF
  obtain ⟨q1, eq1, hF⟩ := bind_some' hF
  obtain ⟨q2, eq2, hF⟩ := bind_some' hF
  obtain ⟨q3, eq3, hF⟩ := bind_some' hF
  obtain ⟨q4, eq4, hF⟩ := bind_some' hF
  obtain ⟨q5, eq5, hF⟩ := bind_some' hF
  obtain ⟨q6, eq6, hF⟩ := bind_some' hF
  obtain rfl := Option.some.inj hF
  exact (Fr_tr (Fr_tr (Fr_tr (Fr_tr Fr.rf (Fr_mono (fr_X12_lay eq2) (fun a j h => by unfold Wr_X12_lay at h; unfold Wr_X12_claims; omega))) (Fr_mono (fr_X12_lay eq3) (fun a j h => by unfold Wr_X12_lay at h; unfold Wr_X12_claims; omega))) (Fr_mono (fr_X12_lay eq4) (fun a j h => by unfold Wr_X12_lay at h; unfold Wr_X12_claims; omega))) (Fr_mono (fr_X12_lay eq6) (fun a j h => by unfold Wr_X12_lay at h; unfold Wr_X12_claims; omega)))
def Wr_X12_claim (a : Nat) (j : Int) : Prop := ((101 ≤ a ∧ a ≤ 104)) ∨ (a = 94 ∧ j = 2) ∨ (a = 94 ∧ j = 25) ∨ (a = 94 ∧ j = 30)
theorem fr_X12_claim {N : Nat} {v1 : Int} {v2 : Int} {v3 : Int} {σ : Sto} {res : Int × Sto} (hF : F_X12_claim N v1 v2 v3 σ = some res) : Fr (Wr_X12_claim) σ res.2 := by
  unfold F_X12_claim at hF
  obtain ⟨q1, eq1, hF⟩ := bind_some' hF
  by_cases c2 : q1 = 0
  · have hF := (if_pos c2).symm.trans hF
    obtain rfl := Option.some.inj hF
    exact (Fr_up Fr.rf (by unfold Wr_X12_claim; omega))
  · have hF := (if_neg c2).symm.trans hF
    obtain ⟨q3, eq3, hF⟩ := bind_some' hF
    by_cases c4 : q3 = 0
    · have hF := (if_pos c4).symm.trans hF
      obtain rfl := Option.some.inj hF
      exact (Fr_up Fr.rf (by unfold Wr_X12_claim; omega))
    · have hF := (if_neg c4).symm.trans hF
      obtain ⟨q5, eq5, hF⟩ := bind_some' hF
      by_cases c6 : q5 = 30
      · have hF := (if_pos c6).symm.trans hF
        obtain rfl := Option.some.inj hF
        exact (Fr_up Fr.rf (by unfold Wr_X12_claim; omega))
      · have hF := (if_neg c6).symm.trans hF
        obtain ⟨b7, hF⟩ := inb_some hF
        obtain ⟨q8, eq8, hF⟩ := bind_some' hF
        obtain ⟨q9, eq9, hF⟩ := bind_some' hF
        by_cases c10 : q9 = 0
        · have hF := (if_pos c10).symm.trans hF
          obtain rfl := Option.some.inj hF
          exact (Fr_tr (Fr_up Fr.rf (by unfold Wr_X12_claim; omega)) (Fr_mono (fr_X12_laysStretches eq8) (fun a j h => by unfold Wr_X12_laysStretches at h; unfold Wr_X12_claim; omega)))
        · have hF := (if_neg c10).symm.trans hF
          obtain ⟨q11, eq11, hF⟩ := bind_some' hF
          obtain ⟨q12, eq12, hF⟩ := bind_some' hF
          obtain ⟨q13, eq13, hF⟩ := bind_some' hF
          obtain rfl := Option.some.inj hF
          exact (Fr_tr (Fr_tr (Fr_tr (Fr_up Fr.rf (by unfold Wr_X12_claim; omega)) (Fr_mono (fr_X12_laysStretches eq8) (fun a j h => by unfold Wr_X12_laysStretches at h; unfold Wr_X12_claim; omega))) (Fr_mono (fr_X12_canUndo eq11) (fun a j h => by unfold Wr_X12_canUndo at h; unfold Wr_X12_claim; omega))) (Fr_mono (fr_X12_claims eq12) (fun a j h => by unfold Wr_X12_claims at h; unfold Wr_X12_claim; omega)))
def Wr_X12_withdraw (a : Nat) (j : Int) : Prop := (a = 101) ∨ (a = 94 ∧ j = 2) ∨ (a = 94 ∧ j = 25)
theorem fr_X12_withdraw_B49 {N : Nat}  {nx49 : (Int × Sto) → Option (Int × Sto)} {v2 : Int} {v3 : Int} {σ : Sto} {res : Int × Sto} (hnx49 : ∀ q, nx49 q = some res → Fr (Wr_X12_withdraw) q.2 res.2) (hF : F_X12_withdraw_B49 N nx49 v2 v3 σ = some res) : Fr (Wr_X12_withdraw) σ res.2 := by
  unfold F_X12_withdraw_B49 at hF
  obtain ⟨q7, eq7, hF⟩ := bind_some' hF
  by_cases c8 : (ja 1 (jm 3 q7)) ≤ v3
  · have hF := (if_pos c8).symm.trans hF
    obtain rfl := Option.some.inj hF
    exact Fr.rf
  · have hF := (if_neg c8).symm.trans hF
    obtain ⟨q9, eq9, hF⟩ := bind_some' hF
    obtain ⟨q10, eq10, hF⟩ := bind_some' hF
    exact Fr_tr (Fr_tr Fr.rf (Fr_mono (fr_X12_lay eq10) (fun a j h => by unfold Wr_X12_lay at h; unfold Wr_X12_withdraw; omega))) (hnx49 _ hF)
theorem fr_X12_withdraw {N : Nat} {v1 : Int} {σ : Sto} {res : Int × Sto} (hF : F_X12_withdraw N v1 σ = some res) : Fr (Wr_X12_withdraw) σ res.2 := by
  unfold F_X12_withdraw at hF
  obtain ⟨q1, eq1, hF⟩ := bind_some' hF
  by_cases c2 : q1 = 0
  · have hF := (if_pos c2).symm.trans hF
    obtain rfl := Option.some.inj hF
    exact (Fr_up Fr.rf (by unfold Wr_X12_withdraw; omega))
  · have hF := (if_neg c2).symm.trans hF
    obtain ⟨q3, eq3, hF⟩ := bind_some' hF
    obtain ⟨q4, eq4, hF⟩ := bind_some' hF
    obtain ⟨q5, eq5, hF⟩ := bind_some' hF
    obtain ⟨q6, eq6, hF⟩ := bind_some' hF
    exact Fr_tr (Fr_tr (Fr_tr (Fr_up Fr.rf (by unfold Wr_X12_withdraw; omega)) (Fr_mono (fr_X12_canUndo eq3) (fun a j h => by unfold Wr_X12_canUndo at h; unfold Wr_X12_withdraw; omega))) (Fr_mono (fr_X12_lay eq6) (fun a j h => by unfold Wr_X12_lay at h; unfold Wr_X12_withdraw; omega))) (loopK_ind (res := res) (P := fun (q : Int × Sto) => Fr (Wr_X12_withdraw) q.2 res.2) (fun nx q hn hF => fr_X12_withdraw_B49 hn hF) N _ hF)
def Wr_X12_claimed (a : Nat) (j : Int) : Prop := (a = 94 ∧ j = 2)
theorem fr_X12_claimed {N : Nat} {v1 : Int} {v2 : Int} {σ : Sto} {res : Int × Sto} (hF : F_X12_claimed N v1 v2 σ = some res) : Fr (Wr_X12_claimed) σ res.2 := by
  unfold F_X12_claimed at hF
  obtain ⟨q1, eq1, hF⟩ := bind_some' hF
  by_cases c2 : q1 = 0
  · have hF := (if_pos c2).symm.trans hF
    obtain rfl := Option.some.inj hF
    exact (Fr_up Fr.rf (by unfold Wr_X12_claimed; omega))
  · have hF := (if_neg c2).symm.trans hF
    obtain ⟨q3, eq3, hF⟩ := bind_some' hF
    by_cases c4 : q3 = 0
    · have hF := (if_pos c4).symm.trans hF
      obtain rfl := Option.some.inj hF
      exact (Fr_up Fr.rf (by unfold Wr_X12_claimed; omega))
    · have hF := (if_neg c4).symm.trans hF
      by_cases c5 : 3 ≤ v2
      · have hF := (if_pos c5).symm.trans hF
        obtain ⟨q6, eq6, hF⟩ := bind_some' hF
        obtain ⟨q7, eq7, hF⟩ := bind_some' hF
        obtain ⟨q8, eq8, hF⟩ := bind_some' hF
        obtain ⟨q9, eq9, hF⟩ := bind_some' hF
        obtain rfl := Option.some.inj hF
        exact (Fr_up Fr.rf (by unfold Wr_X12_claimed; omega))
      · have hF := (if_neg c5).symm.trans hF
        obtain ⟨q10, eq10, hF⟩ := bind_some' hF
        obtain rfl := Option.some.inj hF
        exact (Fr_up Fr.rf (by unfold Wr_X12_claimed; omega))
def Wr_X12_claimAll (a : Nat) (j : Int) : Prop := ((101 ≤ a ∧ a ≤ 110)) ∨ (a = 94 ∧ j = 2) ∨ (a = 94 ∧ j = 25) ∨ (a = 94 ∧ j = 30) ∨ (a = 94 ∧ j = 37)
theorem fr_X12_claimAll_J72 {N : Nat}  {nx14 : (Int × Int × Sto) → Option (Int × Sto)} {v1 : Int} {v2 : Int} {σ : Sto} {res : Int × Sto} (hnx14 : ∀ q, nx14 q = some res → Fr (Wr_X12_claimAll) q.2.2 res.2) (hF : F_X12_claimAll_J72 N nx14 v1 v2 σ = some res) : Fr (Wr_X12_claimAll) σ res.2 := by
  unfold F_X12_claimAll_J72 at hF
  exact Fr_tr Fr.rf (hnx14 _ hF)
theorem fr_X12_claimAll_J51 {N : Nat}  {nx14 : (Int × Int × Sto) → Option (Int × Sto)} {v1 : Int} {v2 : Int} {σ : Sto} {res : Int × Sto} (hnx14 : ∀ q, nx14 q = some res → Fr (Wr_X12_claimAll) q.2.2 res.2) (hF : F_X12_claimAll_J51 N nx14 v1 v2 σ = some res) : Fr (Wr_X12_claimAll) σ res.2 := by
  unfold F_X12_claimAll_J51 at hF
  obtain ⟨b7, hF⟩ := inb_some hF
  obtain ⟨q8, eq8, hF⟩ := bind_some' hF
  exact Fr_tr (Fr_tr Fr.rf (Fr_mono (fr_X12_claims eq8) (fun a j h => by unfold Wr_X12_claims at h; unfold Wr_X12_claimAll; omega))) (fr_X12_claimAll_J72 hnx14 hF)
theorem fr_X12_claimAll_B14 {N : Nat}  {nx14 : (Int × Int × Sto) → Option (Int × Sto)} {v1 : Int} {v2 : Int} {σ : Sto} {res : Int × Sto} (hnx14 : ∀ q, nx14 q = some res → Fr (Wr_X12_claimAll) q.2.2 res.2) (hF : F_X12_claimAll_B14 N nx14 v1 v2 σ = some res) : Fr (Wr_X12_claimAll) σ res.2 := by
  unfold F_X12_claimAll_B14 at hF
  by_cases c2 : 144 ≤ v2
  · have hF := (if_pos c2).symm.trans hF
    obtain rfl := Option.some.inj hF
    exact Fr.rf
  · have hF := (if_neg c2).symm.trans hF
    obtain ⟨q3, eq3, hF⟩ := bind_some' hF
    by_cases c4 : 30 ≤ q3
    · have hF := (if_pos c4).symm.trans hF
      obtain rfl := Option.some.inj hF
      exact Fr.rf
    · have hF := (if_neg c4).symm.trans hF
      obtain ⟨b5, hF⟩ := inb_some hF
      by_cases c6 : (σ.1 107 v2) = 0
      · have hF := (if_pos c6).symm.trans hF
        exact fr_X12_claimAll_J72 hnx14 hF
      · have hF := (if_neg c6).symm.trans hF
        by_cases c9 : v1 = 0
        · have hF := (if_pos c9).symm.trans hF
          obtain ⟨q10, eq10, hF⟩ := bind_some' hF
          exact Fr_tr (Fr_tr Fr.rf (Fr_mono (fr_X12_canUndo eq10) (fun a j h => by unfold Wr_X12_canUndo at h; unfold Wr_X12_claimAll; omega))) (fr_X12_claimAll_J51 hnx14 hF)
        · have hF := (if_neg c9).symm.trans hF
          exact fr_X12_claimAll_J51 hnx14 hF
theorem fr_X12_claimAll {N : Nat}  {σ : Sto} {res : Int × Sto} (hF : F_X12_claimAll N  σ = some res) : Fr (Wr_X12_claimAll) σ res.2 := by
  unfold F_X12_claimAll at hF
  obtain ⟨q1, eq1, hF⟩ := bind_some' hF
  exact Fr_tr (Fr_tr (Fr_up Fr.rf (by unfold Wr_X12_claimAll; omega)) (Fr_mono (fr_X12_solves eq1) (fun a j h => by unfold Wr_X12_solves at h; unfold Wr_X12_claimAll; omega))) (loopK_ind (res := res) (P := fun (q : Int × Int × Sto) => Fr (Wr_X12_claimAll) q.2.2 res.2) (fun nx q hn hF => fr_X12_claimAll_B14 hn hF) N _ hF)
def Wr_X12_result_ (a : Nat) (j : Int) : Prop := (a = 101) ∨ (a = 94 ∧ j = 2) ∨ (a = 94 ∧ j = 25)
theorem fr_X12_result_ {N : Nat} {v1 : Int} {v2 : Int} {σ : Sto} {res : Int × Sto} (hF : F_X12_result_ N v1 v2 σ = some res) : Fr (Wr_X12_result_) σ res.2 := by
  unfold F_X12_result_ at hF
  obtain ⟨q1, eq1, hF⟩ := bind_some' hF
  by_cases c2 : q1 = 0
  · have hF := (if_pos c2).symm.trans hF
    obtain rfl := Option.some.inj hF
    exact (Fr_up Fr.rf (by unfold Wr_X12_result_; omega))
  · have hF := (if_neg c2).symm.trans hF
    obtain ⟨q3, eq3, hF⟩ := bind_some' hF
    by_cases c4 : q3 = 0
    · have hF := (if_pos c4).symm.trans hF
      obtain rfl := Option.some.inj hF
      exact (Fr_up Fr.rf (by unfold Wr_X12_result_; omega))
    · have hF := (if_neg c4).symm.trans hF
      obtain ⟨q5, eq5, hF⟩ := bind_some' hF
      by_cases c6 : q5 ≤ 0
      · have hF := (if_pos c6).symm.trans hF
        obtain ⟨q7, eq7, hF⟩ := bind_some' hF
        obtain ⟨q8, eq8, hF⟩ := bind_some' hF
        obtain rfl := Option.some.inj hF
        exact (Fr_tr (Fr_tr (Fr_up Fr.rf (by unfold Wr_X12_result_; omega)) (Fr_mono (fr_X12_canUndo eq7) (fun a j h => by unfold Wr_X12_canUndo at h; unfold Wr_X12_result_; omega))) (Fr_mono (fr_X12_lay eq8) (fun a j h => by unfold Wr_X12_lay at h; unfold Wr_X12_result_; omega)))
      · have hF := (if_neg c6).symm.trans hF
        obtain rfl := Option.some.inj hF
        exact (Fr_up Fr.rf (by unfold Wr_X12_result_; omega))
def Wr_X12_owned (a : Nat) (j : Int) : Prop := (a = 101)
theorem fr_X12_owned {N : Nat} {v1 : Int} {v2 : Int} {v3 : Int} {v4 : Int} {σ : Sto} {res : Sto} (hF : F_X12_owned N v1 v2 v3 v4 σ = some res) : Fr (Wr_X12_owned) σ res := by
  unfold F_X12_owned at hF
  obtain ⟨q1, eq1, hF⟩ := bind_some' hF
  obtain ⟨q2, eq2, hF⟩ := bind_some' hF
  obtain ⟨q3, eq3, hF⟩ := bind_some' hF
  obtain ⟨q4, eq4, hF⟩ := bind_some' hF
  obtain ⟨q5, eq5, hF⟩ := bind_some' hF
  obtain ⟨q6, eq6, hF⟩ := bind_some' hF
  obtain ⟨q7, eq7, hF⟩ := bind_some' hF
  obtain rfl := Option.some.inj hF
  exact (Fr_tr (Fr_tr (Fr_tr (Fr_tr (Fr_tr Fr.rf (Fr_mono (fr_X12_lay eq2) (fun a j h => by unfold Wr_X12_lay at h; unfold Wr_X12_owned; omega))) (Fr_mono (fr_X12_lay eq3) (fun a j h => by unfold Wr_X12_lay at h; unfold Wr_X12_owned; omega))) (Fr_mono (fr_X12_lay eq4) (fun a j h => by unfold Wr_X12_lay at h; unfold Wr_X12_owned; omega))) (Fr_mono (fr_X12_lay eq5) (fun a j h => by unfold Wr_X12_lay at h; unfold Wr_X12_owned; omega))) (Fr_mono (fr_X12_lay eq7) (fun a j h => by unfold Wr_X12_lay at h; unfold Wr_X12_owned; omega)))
def Wr_X12_own (a : Nat) (j : Int) : Prop := ((101 ≤ a ∧ a ≤ 104)) ∨ (a = 94 ∧ j = 2) ∨ (a = 94 ∧ j = 24) ∨ (a = 94 ∧ j = 25) ∨ (a = 94 ∧ j = 30)
theorem fr_X12_own_J169 {N : Nat}   {v1 : Int} {v2 : Int} {v3 : Int} {v4 : Int} {v5 : Int} {σ : Sto} {res : Int × Sto} (hF : F_X12_own_J169 N  v1 v2 v3 v4 v5 σ = some res) : Fr (Wr_X12_own) σ res.2 := by
  unfold F_X12_own_J169 at hF
  by_cases c16 : v5 = 0
  · have hF := (if_pos c16).symm.trans hF
    obtain rfl := Option.some.inj hF
    exact (Fr_up Fr.rf (by unfold Wr_X12_own; omega))
  · have hF := (if_neg c16).symm.trans hF
    obtain ⟨q17, eq17, hF⟩ := bind_some' hF
    obtain ⟨q18, eq18, hF⟩ := bind_some' hF
    obtain ⟨q19, eq19, hF⟩ := bind_some' hF
    obtain rfl := Option.some.inj hF
    exact (Fr_tr (Fr_tr (Fr_up Fr.rf (by unfold Wr_X12_own; omega)) (Fr_mono (fr_X12_canUndo eq17) (fun a j h => by unfold Wr_X12_canUndo at h; unfold Wr_X12_own; omega))) (Fr_mono (fr_X12_owned eq18) (fun a j h => by unfold Wr_X12_owned at h; unfold Wr_X12_own; omega)))
theorem fr_X12_own_J161 {N : Nat}  {nx96 : (Int × Int) → Option (Int × Sto)} {v1 : Int} {v2 : Int} {v3 : Int} {v4 : Int} {v6 : Int} {t0 : Int} {σ : Sto} {res : Int × Sto} (hnx96 : ∀ q, nx96 q = some res → Fr (Wr_X12_own) σ res.2) (hF : F_X12_own_J161 N nx96 v1 v2 v3 v4 v6 t0 σ = some res) : Fr (Wr_X12_own) σ res.2 := by
  unfold F_X12_own_J161 at hF
  exact hnx96 _ hF
theorem fr_X12_own_J160 {N : Nat}  {nx96 : (Int × Int) → Option (Int × Sto)} {v1 : Int} {v2 : Int} {v3 : Int} {v4 : Int} {v6 : Int} {σ : Sto} {res : Int × Sto} (hnx96 : ∀ q, nx96 q = some res → Fr (Wr_X12_own) σ res.2) (hF : F_X12_own_J160 N nx96 v1 v2 v3 v4 v6 σ = some res) : Fr (Wr_X12_own) σ res.2 := by
  unfold F_X12_own_J160 at hF
  exact fr_X12_own_J161 hnx96 hF
theorem fr_X12_own_B96 {N : Nat}  {nx96 : (Int × Int) → Option (Int × Sto)} {v1 : Int} {v2 : Int} {v3 : Int} {v4 : Int} {v5 : Int} {v6 : Int} {σ : Sto} {res : Int × Sto} (hnx96 : ∀ q, nx96 q = some res → Fr (Wr_X12_own) σ res.2) (hF : F_X12_own_B96 N nx96 v1 v2 v3 v4 v5 v6 σ = some res) : Fr (Wr_X12_own) σ res.2 := by
  unfold F_X12_own_B96 at hF
  obtain ⟨q20, eq20, hF⟩ := bind_some' hF
  by_cases c21 : q20 ≤ v6
  · have hF := (if_pos c21).symm.trans hF
    exact fr_X12_own_J169  hF
  · have hF := (if_neg c21).symm.trans hF
    obtain ⟨q22, eq22, hF⟩ := bind_some' hF
    obtain ⟨q23, eq23, hF⟩ := bind_some' hF
    by_cases c24 : v5 = 0
    · have hF := (if_pos c24).symm.trans hF
      exact fr_X12_own_J160 hnx96 hF
    · have hF := (if_neg c24).symm.trans hF
      obtain ⟨q25, eq25, hF⟩ := bind_some' hF
      obtain ⟨q26, eq26, hF⟩ := bind_some' hF
      by_cases c27 : q26 < q25
      · have hF := (if_pos c27).symm.trans hF
        exact fr_X12_own_J160 hnx96 hF
      · have hF := (if_neg c27).symm.trans hF
        exact fr_X12_own_J161 hnx96 hF
theorem fr_X12_own {N : Nat} {v1 : Int} {v2 : Int} {v3 : Int} {v4 : Int} {σ : Sto} {res : Int × Sto} (hF : F_X12_own N v1 v2 v3 v4 σ = some res) : Fr (Wr_X12_own) σ res.2 := by
  unfold F_X12_own at hF
  obtain ⟨q1, eq1, hF⟩ := bind_some' hF
  by_cases c2 : q1 = 0
  · have hF := (if_pos c2).symm.trans hF
    obtain rfl := Option.some.inj hF
    exact (Fr_up Fr.rf (by unfold Wr_X12_own; omega))
  · have hF := (if_neg c2).symm.trans hF
    obtain ⟨q3, eq3, hF⟩ := bind_some' hF
    by_cases c4 : q3 = 0
    · have hF := (if_pos c4).symm.trans hF
      obtain rfl := Option.some.inj hF
      exact (Fr_up Fr.rf (by unfold Wr_X12_own; omega))
    · have hF := (if_neg c4).symm.trans hF
      by_cases c5 : v2 ≤ v1
      · have hF := (if_pos c5).symm.trans hF
        obtain rfl := Option.some.inj hF
        exact (Fr_up Fr.rf (by unfold Wr_X12_own; omega))
      · have hF := (if_neg c5).symm.trans hF
        obtain ⟨q6, eq6, hF⟩ := bind_some' hF
        by_cases c7 : q6 = 0
        · have hF := (if_pos c7).symm.trans hF
          obtain rfl := Option.some.inj hF
          exact (Fr_up Fr.rf (by unfold Wr_X12_own; omega))
        · have hF := (if_neg c7).symm.trans hF
          obtain ⟨q8, eq8, hF⟩ := bind_some' hF
          by_cases c9 : q8 = 0
          · have hF := (if_pos c9).symm.trans hF
            obtain rfl := Option.some.inj hF
            exact (Fr_up Fr.rf (by unfold Wr_X12_own; omega))
          · have hF := (if_neg c9).symm.trans hF
            obtain ⟨q10, eq10, hF⟩ := bind_some' hF
            by_cases c11 : q10 = 24
            · have hF := (if_pos c11).symm.trans hF
              obtain rfl := Option.some.inj hF
              exact (Fr_up Fr.rf (by unfold Wr_X12_own; omega))
            · have hF := (if_neg c11).symm.trans hF
              obtain ⟨q12, eq12, hF⟩ := bind_some' hF
              obtain ⟨q13, eq13, hF⟩ := bind_some' hF
              obtain ⟨b14, hF⟩ := inb_some hF
              obtain ⟨q15, eq15, hF⟩ := bind_some' hF
              exact Fr_tr (Fr_tr (Fr_tr (Fr_up (Fr_tr (Fr_up Fr.rf (by unfold Wr_X12_own; omega)) (Fr_mono (fr_X12_copyBank eq12) (fun a j h => by unfold Wr_X12_copyBank at h; unfold Wr_X12_own; omega))) (by unfold Wr_X12_own; omega)) (Fr_mono (fr_X12_owned eq13) (fun a j h => by unfold Wr_X12_owned at h; unfold Wr_X12_own; omega))) (Fr_mono (fr_X12_laysStretches eq15) (fun a j h => by unfold Wr_X12_laysStretches at h; unfold Wr_X12_own; omega))) (loopK_ind (res := res) (P := fun (q : Int × Int) => Fr (Wr_X12_own) q15 res.2) (fun nx q hn hF => fr_X12_own_B96 hn hF) N _ hF)
def Wr_X12_fails (a : Nat) (j : Int) : Prop := (a = 94 ∧ j = 2)
theorem fr_X12_fails {N : Nat} {v1 : Int} {σ : Sto} {res : Int × Sto} (hF : F_X12_fails N v1 σ = some res) : Fr (Wr_X12_fails) σ res.2 := by
  unfold F_X12_fails at hF
  obtain rfl := Option.some.inj hF
  exact (Fr_up Fr.rf (by unfold Wr_X12_fails; omega))
def Wr_X12_member (a : Nat) (j : Int) : Prop := (a = 94 ∧ j = 2)
theorem fr_X12_member_J85 {N : Nat}  {nx57 : (Int × Int) → Option (Int × Sto)} {v1 : Int} {v4 : Int} {t0 : Int} {t1 : Int} {σ : Sto} {res : Int × Sto} (hnx57 : ∀ q, nx57 q = some res → Fr (Wr_X12_member) σ res.2) (hF : F_X12_member_J85 N nx57 v1 v4 t0 t1 σ = some res) : Fr (Wr_X12_member) σ res.2 := by
  unfold F_X12_member_J85 at hF
  exact hnx57 _ hF
theorem fr_X12_member_B57 {N : Nat}  {nx57 : (Int × Int) → Option (Int × Sto)} {v1 : Int} {v3 : Int} {v4 : Int} {σ : Sto} {res : Int × Sto} (hnx57 : ∀ q, nx57 q = some res → Fr (Wr_X12_member) σ res.2) (hF : F_X12_member_B57 N nx57 v1 v3 v4 σ = some res) : Fr (Wr_X12_member) σ res.2 := by
  unfold F_X12_member_B57 at hF
  by_cases c6 : (σ.1 94 14) ≤ v4
  · have hF := (if_pos c6).symm.trans hF
    obtain rfl := Option.some.inj hF
    exact Fr.rf
  · have hF := (if_neg c6).symm.trans hF
    obtain ⟨q7, eq7, hF⟩ := bind_some' hF
    by_cases c8 : q7 = v1
    · have hF := (if_pos c8).symm.trans hF
      exact fr_X12_member_J85 hnx57 hF
    · have hF := (if_neg c8).symm.trans hF
      exact fr_X12_member_J85 hnx57 hF
theorem fr_X12_member {N : Nat} {v1 : Int} {v2 : Int} {σ : Sto} {res : Int × Sto} (hF : F_X12_member N v1 v2 σ = some res) : Fr (Wr_X12_member) σ res.2 := by
  unfold F_X12_member at hF
  obtain ⟨q1, eq1, hF⟩ := bind_some' hF
  by_cases c2 : q1 = 0
  · have hF := (if_pos c2).symm.trans hF
    obtain ⟨q11, eq11, hF⟩ := bind_some' hF
    obtain rfl := Option.some.inj hF
    exact (Fr_tr (Fr_up Fr.rf (by unfold Wr_X12_member; omega)) (Fr_mono (fr_X12_fails eq11) (fun a j h => by unfold Wr_X12_fails at h; unfold Wr_X12_member; omega)))
  · have hF := (if_neg c2).symm.trans hF
    obtain ⟨q3, eq3, hF⟩ := bind_some' hF
    by_cases c4 : q3 = 0
    · have hF := (if_pos c4).symm.trans hF
      obtain ⟨q10, eq10, hF⟩ := bind_some' hF
      obtain rfl := Option.some.inj hF
      exact (Fr_tr (Fr_up Fr.rf (by unfold Wr_X12_member; omega)) (Fr_mono (fr_X12_fails eq10) (fun a j h => by unfold Wr_X12_fails at h; unfold Wr_X12_member; omega)))
    · have hF := (if_neg c4).symm.trans hF
      by_cases c5 : 2 ≤ v2
      · have hF := (if_pos c5).symm.trans hF
        exact Fr_tr (Fr_up Fr.rf (by unfold Wr_X12_member; omega)) (loopK_ind (res := res) (P := fun (q : Int × Int) => Fr (Wr_X12_member) (upI σ 94 2 0) res.2) (fun nx q hn hF => fr_X12_member_B57 hn hF) N _ hF)
      · have hF := (if_neg c5).symm.trans hF
        obtain ⟨b9, hF⟩ := inb_some hF
        obtain rfl := Option.some.inj hF
        exact (Fr_up Fr.rf (by unfold Wr_X12_member; omega))
def Wr_X12_period (a : Nat) (j : Int) : Prop := (a = 94 ∧ j = 2)
theorem fr_X12_period {N : Nat} {v1 : Int} {v2 : Int} {σ : Sto} {res : Int × Sto} (hF : F_X12_period N v1 v2 σ = some res) : Fr (Wr_X12_period) σ res.2 := by
  unfold F_X12_period at hF
  obtain ⟨q1, eq1, hF⟩ := bind_some' hF
  by_cases c2 : q1 = 0
  · have hF := (if_pos c2).symm.trans hF
    obtain rfl := Option.some.inj hF
    exact (Fr_up Fr.rf (by unfold Wr_X12_period; omega))
  · have hF := (if_neg c2).symm.trans hF
    obtain ⟨q3, eq3, hF⟩ := bind_some' hF
    by_cases c4 : q3 = 0
    · have hF := (if_pos c4).symm.trans hF
      obtain rfl := Option.some.inj hF
      exact (Fr_up Fr.rf (by unfold Wr_X12_period; omega))
    · have hF := (if_neg c4).symm.trans hF
      by_cases c5 : 3 ≤ v2
      · have hF := (if_pos c5).symm.trans hF
        by_cases c6 : v2 = 3
        · have hF := (if_pos c6).symm.trans hF
          obtain ⟨q10, eq10, hF⟩ := bind_some' hF
          obtain rfl := Option.some.inj hF
          exact (Fr_up Fr.rf (by unfold Wr_X12_period; omega))
        · have hF := (if_neg c6).symm.trans hF
          by_cases c7 : v2 = 4
          · have hF := (if_pos c7).symm.trans hF
            obtain ⟨q9, eq9, hF⟩ := bind_some' hF
            obtain rfl := Option.some.inj hF
            exact (Fr_up Fr.rf (by unfold Wr_X12_period; omega))
          · have hF := (if_neg c7).symm.trans hF
            obtain ⟨q8, eq8, hF⟩ := bind_some' hF
            obtain rfl := Option.some.inj hF
            exact (Fr_up Fr.rf (by unfold Wr_X12_period; omega))
      · have hF := (if_neg c5).symm.trans hF
        obtain ⟨b11, hF⟩ := inb_some hF
        obtain rfl := Option.some.inj hF
        exact (Fr_up Fr.rf (by unfold Wr_X12_period; omega))
def Wr_X12_percent (a : Nat) (j : Int) : Prop := (a = 94 ∧ j = 2)
theorem fr_X12_percent_J36 {N : Nat}    {σ : Sto} {res : Int × Sto} (hF : F_X12_percent_J36 N   σ = some res) : Fr (Wr_X12_percent) σ res.2 := by
  unfold F_X12_percent_J36 at hF
  obtain rfl := Option.some.inj hF
  exact Fr.rf
theorem fr_X12_percent {N : Nat} {v1 : Int} {v2 : Int} {v3 : Int} {σ : Sto} {res : Int × Sto} (hF : F_X12_percent N v1 v2 v3 σ = some res) : Fr (Wr_X12_percent) σ res.2 := by
  unfold F_X12_percent at hF
  obtain ⟨q1, eq1, hF⟩ := bind_some' hF
  by_cases c2 : q1 = 0
  · have hF := (if_pos c2).symm.trans hF
    exact Fr_tr (Fr_up Fr.rf (by unfold Wr_X12_percent; omega)) (fr_X12_percent_J36  hF)
  · have hF := (if_neg c2).symm.trans hF
    by_cases c3 : v1 = v2
    · have hF := (if_pos c3).symm.trans hF
      exact Fr_tr (Fr_up Fr.rf (by unfold Wr_X12_percent; omega)) (fr_X12_percent_J36  hF)
    · have hF := (if_neg c3).symm.trans hF
      obtain ⟨q4, eq4, hF⟩ := bind_some' hF
      by_cases c5 : q4 = 0
      · have hF := (if_pos c5).symm.trans hF
        exact Fr_tr (Fr_up Fr.rf (by unfold Wr_X12_percent; omega)) (fr_X12_percent_J36  hF)
      · have hF := (if_neg c5).symm.trans hF
        obtain ⟨q6, eq6, hF⟩ := bind_some' hF
        obtain rfl := Option.some.inj hF
        exact (Fr_up Fr.rf (by unfold Wr_X12_percent; omega))
def Wr_X12_share (a : Nat) (j : Int) : Prop := (a = 102) ∨ (a = 94 ∧ j = 2)
theorem fr_X12_share {N : Nat} {v1 : Int} {v2 : Int} {v3 : Int} {σ : Sto} {res : Int × Sto} (hF : F_X12_share N v1 v2 v3 σ = some res) : Fr (Wr_X12_share) σ res.2 := by
  unfold F_X12_share at hF
  obtain ⟨q1, eq1, hF⟩ := bind_some' hF
  by_cases c2 : q1 = 0
  · have hF := (if_pos c2).symm.trans hF
    obtain rfl := Option.some.inj hF
    exact (Fr_up Fr.rf (by unfold Wr_X12_share; omega))
  · have hF := (if_neg c2).symm.trans hF
    obtain ⟨q3, eq3, hF⟩ := bind_some' hF
    by_cases c4 : q3 = 0
    · have hF := (if_pos c4).symm.trans hF
      obtain rfl := Option.some.inj hF
      exact (Fr_up Fr.rf (by unfold Wr_X12_share; omega))
    · have hF := (if_neg c4).symm.trans hF
      obtain ⟨q5, eq5, hF⟩ := bind_some' hF
      obtain ⟨b6, hF⟩ := inb_some hF
      obtain rfl := Option.some.inj hF
      exact (Fr_tr (Fr_up Fr.rf (by unfold Wr_X12_share; omega)) (Fr_mono (fr_X12_laysShares eq5) (fun a j h => by unfold Wr_X12_laysShares at h; unfold Wr_X12_share; omega)))
def Wr_X12_parts (a : Nat) (j : Int) : Prop := (a = 102) ∨ (a = 94 ∧ j = 2)
theorem fr_X12_parts {N : Nat} {v1 : Int} {v2 : Int} {v3 : Int} {σ : Sto} {res : Int × Sto} (hF : F_X12_parts N v1 v2 v3 σ = some res) : Fr (Wr_X12_parts) σ res.2 := by
  unfold F_X12_parts at hF
  obtain ⟨q1, eq1, hF⟩ := bind_some' hF
  by_cases c2 : q1 = 0
  · have hF := (if_pos c2).symm.trans hF
    obtain rfl := Option.some.inj hF
    exact (Fr_up Fr.rf (by unfold Wr_X12_parts; omega))
  · have hF := (if_neg c2).symm.trans hF
    obtain ⟨q3, eq3, hF⟩ := bind_some' hF
    by_cases c4 : q3 = 0
    · have hF := (if_pos c4).symm.trans hF
      obtain rfl := Option.some.inj hF
      exact (Fr_up Fr.rf (by unfold Wr_X12_parts; omega))
    · have hF := (if_neg c4).symm.trans hF
      obtain ⟨q5, eq5, hF⟩ := bind_some' hF
      obtain ⟨b6, hF⟩ := inb_some hF
      obtain ⟨n7, hF⟩ := grd_some hF
      obtain ⟨n8, hF⟩ := grd_some hF
      obtain ⟨n9, hF⟩ := grd_some hF
      obtain rfl := Option.some.inj hF
      exact (Fr_tr (Fr_up Fr.rf (by unfold Wr_X12_parts; omega)) (Fr_mono (fr_X12_laysShares eq5) (fun a j h => by unfold Wr_X12_laysShares at h; unfold Wr_X12_parts; omega)))
def Wr_X12_controls (a : Nat) (j : Int) : Prop := (a = 102) ∨ (a = 94 ∧ j = 2)
theorem fr_X12_controls {N : Nat} {v1 : Int} {v2 : Int} {v3 : Int} {σ : Sto} {res : Int × Sto} (hF : F_X12_controls N v1 v2 v3 σ = some res) : Fr (Wr_X12_controls) σ res.2 := by
  unfold F_X12_controls at hF
  obtain ⟨q1, eq1, hF⟩ := bind_some' hF
  by_cases c2 : q1 = 0
  · have hF := (if_pos c2).symm.trans hF
    obtain rfl := Option.some.inj hF
    exact (Fr_up Fr.rf (by unfold Wr_X12_controls; omega))
  · have hF := (if_neg c2).symm.trans hF
    by_cases c3 : v1 = v2
    · have hF := (if_pos c3).symm.trans hF
      obtain rfl := Option.some.inj hF
      exact (Fr_up Fr.rf (by unfold Wr_X12_controls; omega))
    · have hF := (if_neg c3).symm.trans hF
      obtain ⟨q4, eq4, hF⟩ := bind_some' hF
      by_cases c5 : q4 = 0
      · have hF := (if_pos c5).symm.trans hF
        obtain rfl := Option.some.inj hF
        exact (Fr_up Fr.rf (by unfold Wr_X12_controls; omega))
      · have hF := (if_neg c5).symm.trans hF
        obtain ⟨q6, eq6, hF⟩ := bind_some' hF
        obtain ⟨b7, hF⟩ := inb_some hF
        obtain ⟨q8, eq8, hF⟩ := bind_some' hF
        by_cases c9 : q8 = 0
        · have hF := (if_pos c9).symm.trans hF
          obtain rfl := Option.some.inj hF
          exact (Fr_tr (Fr_up Fr.rf (by unfold Wr_X12_controls; omega)) (Fr_mono (fr_X12_laysShares eq6) (fun a j h => by unfold Wr_X12_laysShares at h; unfold Wr_X12_controls; omega)))
        · have hF := (if_neg c9).symm.trans hF
          obtain rfl := Option.some.inj hF
          exact (Fr_tr (Fr_up Fr.rf (by unfold Wr_X12_controls; omega)) (Fr_mono (fr_X12_laysShares eq6) (fun a j h => by unfold Wr_X12_laysShares at h; unfold Wr_X12_controls; omega)))
def Wr_X12_related (a : Nat) (j : Int) : Prop := (a = 102) ∨ (a = 94 ∧ j = 2)
theorem fr_X12_related {N : Nat} {v1 : Int} {v2 : Int} {σ : Sto} {res : Int × Sto} (hF : F_X12_related N v1 v2 σ = some res) : Fr (Wr_X12_related) σ res.2 := by
  unfold F_X12_related at hF
  obtain ⟨q1, eq1, hF⟩ := bind_some' hF
  by_cases c2 : q1 = 0
  · have hF := (if_pos c2).symm.trans hF
    obtain rfl := Option.some.inj hF
    exact (Fr_up Fr.rf (by unfold Wr_X12_related; omega))
  · have hF := (if_neg c2).symm.trans hF
    obtain ⟨q3, eq3, hF⟩ := bind_some' hF
    by_cases c4 : q3 = 0
    · have hF := (if_pos c4).symm.trans hF
      obtain rfl := Option.some.inj hF
      exact (Fr_up Fr.rf (by unfold Wr_X12_related; omega))
    · have hF := (if_neg c4).symm.trans hF
      obtain ⟨q5, eq5, hF⟩ := bind_some' hF
      obtain ⟨q6, eq6, hF⟩ := bind_some' hF
      obtain rfl := Option.some.inj hF
      exact (Fr_tr (Fr_up Fr.rf (by unfold Wr_X12_related; omega)) (Fr_mono (fr_X12_laysShares eq5) (fun a j h => by unfold Wr_X12_laysShares at h; unfold Wr_X12_related; omega)))
def Wr_X12_groups (a : Nat) (j : Int) : Prop := (a = 102) ∨ (a = 94 ∧ j = 2)
theorem fr_X12_groups_J123 {N : Nat}  {nx26 : (Int × Int × Int) → Option (Int × Sto)} {v2 : Int} {v3 : Int} {v4 : Int} {σ : Sto} {res : Int × Sto} (hnx26 : ∀ q, nx26 q = some res → Fr (Wr_X12_groups) σ res.2) (hF : F_X12_groups_J123 N nx26 v2 v3 v4 σ = some res) : Fr (Wr_X12_groups) σ res.2 := by
  unfold F_X12_groups_J123 at hF
  exact hnx26 _ hF
theorem fr_X12_groups_J118 {N : Nat}  {nx26 : (Int × Int × Int) → Option (Int × Sto)} {v2 : Int} {v3 : Int} {v4 : Int} {v5 : Int} {σ : Sto} {res : Int × Sto} (hnx26 : ∀ q, nx26 q = some res → Fr (Wr_X12_groups) σ res.2) (hF : F_X12_groups_J118 N nx26 v2 v3 v4 v5 σ = some res) : Fr (Wr_X12_groups) σ res.2 := by
  unfold F_X12_groups_J118 at hF
  exact fr_X12_groups_J123 hnx26 hF
theorem fr_X12_groups_J115 {N : Nat}  {nx26 : (Int × Int × Int) → Option (Int × Sto)} {nx60 : (Int × Int) → Option (Int × Sto)} {v2 : Int} {v3 : Int} {v4 : Int} {v5 : Int} {v6 : Int} {σ : Sto} {res : Int × Sto} (hnx26 : ∀ q, nx26 q = some res → Fr (Wr_X12_groups) σ res.2) (hnx60 : ∀ q, nx60 q = some res → Fr (Wr_X12_groups) σ res.2) (hF : F_X12_groups_J115 N nx26 nx60 v2 v3 v4 v5 v6 σ = some res) : Fr (Wr_X12_groups) σ res.2 := by
  unfold F_X12_groups_J115 at hF
  exact hnx60 _ hF
theorem fr_X12_groups_J106 {N : Nat}  {nx26 : (Int × Int × Int) → Option (Int × Sto)} {nx60 : (Int × Int) → Option (Int × Sto)} {nx74 : (Int × Int) → Option (Int × Sto)} {v2 : Int} {v3 : Int} {v4 : Int} {v6 : Int} {v7 : Int} {t0 : Int} {t1 : Int} {σ : Sto} {res : Int × Sto} (hnx26 : ∀ q, nx26 q = some res → Fr (Wr_X12_groups) σ res.2) (hnx60 : ∀ q, nx60 q = some res → Fr (Wr_X12_groups) σ res.2) (hnx74 : ∀ q, nx74 q = some res → Fr (Wr_X12_groups) σ res.2) (hF : F_X12_groups_J106 N nx26 nx60 nx74 v2 v3 v4 v6 v7 t0 t1 σ = some res) : Fr (Wr_X12_groups) σ res.2 := by
  unfold F_X12_groups_J106 at hF
  exact hnx74 _ hF
theorem fr_X12_groups_B74 {N : Nat}  {nx26 : (Int × Int × Int) → Option (Int × Sto)} {nx60 : (Int × Int) → Option (Int × Sto)} {nx74 : (Int × Int) → Option (Int × Sto)} {v2 : Int} {v3 : Int} {v4 : Int} {v6 : Int} {v5 : Int} {v7 : Int} {σ : Sto} {res : Int × Sto} (hnx26 : ∀ q, nx26 q = some res → Fr (Wr_X12_groups) σ res.2) (hnx60 : ∀ q, nx60 q = some res → Fr (Wr_X12_groups) σ res.2) (hnx74 : ∀ q, nx74 q = some res → Fr (Wr_X12_groups) σ res.2) (hF : F_X12_groups_B74 N nx26 nx60 nx74 v2 v3 v4 v6 v5 v7 σ = some res) : Fr (Wr_X12_groups) σ res.2 := by
  unfold F_X12_groups_B74 at hF
  by_cases c7 : (σ.1 94 11) ≤ v7
  · have hF := (if_pos c7).symm.trans hF
    exact fr_X12_groups_J115 hnx26 hnx60 hF
  · have hF := (if_neg c7).symm.trans hF
    by_cases c8 : (jand (jshr v6 v7) 1) = 1
    · have hF := (if_pos c8).symm.trans hF
      obtain ⟨q9, eq9, hF⟩ := bind_some' hF
      exact fr_X12_groups_J106 hnx26 hnx60 hnx74 hF
    · have hF := (if_neg c8).symm.trans hF
      exact fr_X12_groups_J106 hnx26 hnx60 hnx74 hF
theorem fr_X12_groups_B60 {N : Nat}  {nx26 : (Int × Int × Int) → Option (Int × Sto)} {nx60 : (Int × Int) → Option (Int × Sto)} {v2 : Int} {v3 : Int} {v4 : Int} {v5 : Int} {v6 : Int} {σ : Sto} {res : Int × Sto} (hnx26 : ∀ q, nx26 q = some res → Fr (Wr_X12_groups) σ res.2) (hnx60 : ∀ q, nx60 q = some res → Fr (Wr_X12_groups) σ res.2) (hF : F_X12_groups_B60 N nx26 nx60 v2 v3 v4 v5 v6 σ = some res) : Fr (Wr_X12_groups) σ res.2 := by
  unfold F_X12_groups_B60 at hF
  by_cases c6 : v5 = v6
  · have hF := (if_pos c6).symm.trans hF
    exact fr_X12_groups_J118 hnx26 hF
  · have hF := (if_neg c6).symm.trans hF
    exact (loopK_ind (res := res) (P := fun (q : Int × Int) => Fr (Wr_X12_groups) σ res.2) (fun nx q hn hF => fr_X12_groups_B74 hnx26 hnx60 hn hF) N _ hF)
theorem fr_X12_groups_B26 {N : Nat}  {nx26 : (Int × Int × Int) → Option (Int × Sto)} {v2 : Int} {v3 : Int} {v4 : Int} {σ : Sto} {res : Int × Sto} (hnx26 : ∀ q, nx26 q = some res → Fr (Wr_X12_groups) σ res.2) (hF : F_X12_groups_B26 N nx26 v2 v3 v4 σ = some res) : Fr (Wr_X12_groups) σ res.2 := by
  unfold F_X12_groups_B26 at hF
  by_cases c4 : (σ.1 94 11) ≤ v4
  · have hF := (if_pos c4).symm.trans hF
    obtain rfl := Option.some.inj hF
    exact Fr.rf
  · have hF := (if_neg c4).symm.trans hF
    by_cases c5 : (jand (jshr v2 v4) 1) = 1
    · have hF := (if_pos c5).symm.trans hF
      exact fr_X12_groups_J123 hnx26 hF
    · have hF := (if_neg c5).symm.trans hF
      exact (loopK_ind (res := res) (P := fun (q : Int × Int) => Fr (Wr_X12_groups) σ res.2) (fun nx q hn hF => fr_X12_groups_B60 hnx26 hn hF) N _ hF)
theorem fr_X12_groups {N : Nat} {v1 : Int} {σ : Sto} {res : Int × Sto} (hF : F_X12_groups N v1 σ = some res) : Fr (Wr_X12_groups) σ res.2 := by
  unfold F_X12_groups at hF
  obtain ⟨q1, eq1, hF⟩ := bind_some' hF
  by_cases c2 : q1 = 0
  · have hF := (if_pos c2).symm.trans hF
    obtain rfl := Option.some.inj hF
    exact (Fr_up Fr.rf (by unfold Wr_X12_groups; omega))
  · have hF := (if_neg c2).symm.trans hF
    obtain ⟨q3, eq3, hF⟩ := bind_some' hF
    exact Fr_tr (Fr_tr (Fr_up Fr.rf (by unfold Wr_X12_groups; omega)) (Fr_mono (fr_X12_laysShares eq3) (fun a j h => by unfold Wr_X12_laysShares at h; unfold Wr_X12_groups; omega))) (loopK_ind (res := res) (P := fun (q : Int × Int × Int) => Fr (Wr_X12_groups) q3 res.2) (fun nx q hn hF => fr_X12_groups_B26 hn hF) N _ hF)
def Wr_X12_shared (a : Nat) (j : Int) : Prop := ((102 ≤ a ∧ a ≤ 104)) ∨ (a = 94 ∧ j = 2) ∨ (a = 94 ∧ j = 30)
theorem fr_X12_shared {N : Nat} {v1 : Int} {v2 : Int} {σ : Sto} {res : Int × Sto} (hF : F_X12_shared N v1 v2 σ = some res) : Fr (Wr_X12_shared) σ res.2 := by
  unfold F_X12_shared at hF
  obtain ⟨q1, eq1, hF⟩ := bind_some' hF
  by_cases c2 : q1 = 0
  · have hF := (if_pos c2).symm.trans hF
    obtain rfl := Option.some.inj hF
    exact (Fr_up Fr.rf (by unfold Wr_X12_shared; omega))
  · have hF := (if_neg c2).symm.trans hF
    obtain ⟨q3, eq3, hF⟩ := bind_some' hF
    by_cases c4 : q3 = 0
    · have hF := (if_pos c4).symm.trans hF
      obtain rfl := Option.some.inj hF
      exact (Fr_up Fr.rf (by unfold Wr_X12_shared; omega))
    · have hF := (if_neg c4).symm.trans hF
      obtain ⟨q5, eq5, hF⟩ := bind_some' hF
      obtain ⟨q6, eq6, hF⟩ := bind_some' hF
      by_cases c7 : q5 = q6
      · have hF := (if_pos c7).symm.trans hF
        obtain rfl := Option.some.inj hF
        exact (Fr_up Fr.rf (by unfold Wr_X12_shared; omega))
      · have hF := (if_neg c7).symm.trans hF
        obtain ⟨b8, hF⟩ := inb_some hF
        obtain ⟨q9, eq9, hF⟩ := bind_some' hF
        obtain ⟨q10, eq10, hF⟩ := bind_some' hF
        obtain rfl := Option.some.inj hF
        exact (Fr_tr (Fr_up Fr.rf (by unfold Wr_X12_shared; omega)) (Fr_mono (fr_X12_laysStretches eq9) (fun a j h => by unfold Wr_X12_laysStretches at h; unfold Wr_X12_shared; omega)))
def Wr_X12_bound (a : Nat) (j : Int) : Prop := ((102 ≤ a ∧ a ≤ 104)) ∨ (a = 94 ∧ j = 2) ∨ (a = 94 ∧ j = 30)
theorem fr_X12_bound {N : Nat} {v1 : Int} {v2 : Int} {σ : Sto} {res : Int × Sto} (hF : F_X12_bound N v1 v2 σ = some res) : Fr (Wr_X12_bound) σ res.2 := by
  unfold F_X12_bound at hF
  obtain ⟨q1, eq1, hF⟩ := bind_some' hF
  by_cases c2 : q1 = 0
  · have hF := (if_pos c2).symm.trans hF
    obtain rfl := Option.some.inj hF
    exact (Fr_up Fr.rf (by unfold Wr_X12_bound; omega))
  · have hF := (if_neg c2).symm.trans hF
    obtain ⟨b3, hF⟩ := inb_some hF
    obtain ⟨q4, eq4, hF⟩ := bind_some' hF
    obtain ⟨q5, eq5, hF⟩ := bind_some' hF
    obtain rfl := Option.some.inj hF
    exact (Fr_tr (Fr_up Fr.rf (by unfold Wr_X12_bound; omega)) (Fr_mono (fr_X12_laysStretches eq4) (fun a j h => by unfold Wr_X12_laysStretches at h; unfold Wr_X12_bound; omega)))
def Wr_X12_room (a : Nat) (j : Int) : Prop := ((102 ≤ a ∧ a ≤ 104)) ∨ (a = 94 ∧ j = 2) ∨ (a = 94 ∧ j = 30)
theorem fr_X12_room {N : Nat} {v1 : Int} {v2 : Int} {σ : Sto} {res : Int × Sto} (hF : F_X12_room N v1 v2 σ = some res) : Fr (Wr_X12_room) σ res.2 := by
  unfold F_X12_room at hF
  obtain ⟨q1, eq1, hF⟩ := bind_some' hF
  by_cases c2 : q1 = 0
  · have hF := (if_pos c2).symm.trans hF
    obtain rfl := Option.some.inj hF
    exact (Fr_up Fr.rf (by unfold Wr_X12_room; omega))
  · have hF := (if_neg c2).symm.trans hF
    obtain ⟨b3, hF⟩ := inb_some hF
    obtain ⟨q4, eq4, hF⟩ := bind_some' hF
    obtain ⟨q5, eq5, hF⟩ := bind_some' hF
    obtain ⟨q6, eq6, hF⟩ := bind_some' hF
    obtain rfl := Option.some.inj hF
    exact (Fr_tr (Fr_up Fr.rf (by unfold Wr_X12_room; omega)) (Fr_mono (fr_X12_laysStretches eq4) (fun a j h => by unfold Wr_X12_laysStretches at h; unfold Wr_X12_room; omega)))
def Wr_X12_price (a : Nat) (j : Int) : Prop := (a = 94 ∧ j = 2)
theorem fr_X12_price {N : Nat} {v1 : Int} {v2 : Int} {σ : Sto} {res : Int × Sto} (hF : F_X12_price N v1 v2 σ = some res) : Fr (Wr_X12_price) σ res.2 := by
  unfold F_X12_price at hF
  obtain ⟨q1, eq1, hF⟩ := bind_some' hF
  by_cases c2 : q1 = 0
  · have hF := (if_pos c2).symm.trans hF
    obtain rfl := Option.some.inj hF
    exact (Fr_up Fr.rf (by unfold Wr_X12_price; omega))
  · have hF := (if_neg c2).symm.trans hF
    obtain ⟨q3, eq3, hF⟩ := bind_some' hF
    obtain rfl := Option.some.inj hF
    exact (Fr_up Fr.rf (by unfold Wr_X12_price; omega))
def Wr_X12_relief (a : Nat) (j : Int) : Prop := ((102 ≤ a ∧ a ≤ 110)) ∨ (a = 94 ∧ j = 2) ∨ (a = 94 ∧ j = 30) ∨ (a = 94 ∧ j = 37)
theorem fr_X12_relief {N : Nat} {v1 : Int} {v2 : Int} {σ : Sto} {res : Int × Sto} (hF : F_X12_relief N v1 v2 σ = some res) : Fr (Wr_X12_relief) σ res.2 := by
  unfold F_X12_relief at hF
  obtain ⟨q1, eq1, hF⟩ := bind_some' hF
  by_cases c2 : q1 = 0
  · have hF := (if_pos c2).symm.trans hF
    obtain rfl := Option.some.inj hF
    exact (Fr_up Fr.rf (by unfold Wr_X12_relief; omega))
  · have hF := (if_neg c2).symm.trans hF
    obtain ⟨q3, eq3, hF⟩ := bind_some' hF
    obtain ⟨b4, hF⟩ := inb_some hF
    obtain rfl := Option.some.inj hF
    exact (Fr_tr (Fr_up Fr.rf (by unfold Wr_X12_relief; omega)) (Fr_mono (fr_X12_solves eq3) (fun a j h => by unfold Wr_X12_solves at h; unfold Wr_X12_relief; omega)))
def Wr_X12_solved (a : Nat) (j : Int) : Prop := ((102 ≤ a ∧ a ≤ 110)) ∨ (a = 94 ∧ j = 2) ∨ (a = 94 ∧ j = 30) ∨ (a = 94 ∧ j = 37)
theorem fr_X12_solved_J106 {N : Nat}   {v1 : Int} {v3 : Int} {v5 : Int} {σ : Sto} {res : Int × Sto} (hF : F_X12_solved_J106 N  v1 v3 v5 σ = some res) : Fr (Wr_X12_solved) σ res.2 := by
  unfold F_X12_solved_J106 at hF
  by_cases c6 : v1 = 1
  · have hF := (if_pos c6).symm.trans hF
    obtain rfl := Option.some.inj hF
    exact Fr.rf
  · have hF := (if_neg c6).symm.trans hF
    obtain rfl := Option.some.inj hF
    exact Fr.rf
theorem fr_X12_solved_J100 {N : Nat}  {nx49 : (Int × Int × Int) → Option (Int × Sto)} {v1 : Int} {v3 : Int} {v5 : Int} {v6 : Int} {σ : Sto} {res : Int × Sto} (hnx49 : ∀ q, nx49 q = some res → Fr (Wr_X12_solved) σ res.2) (hF : F_X12_solved_J100 N nx49 v1 v3 v5 v6 σ = some res) : Fr (Wr_X12_solved) σ res.2 := by
  unfold F_X12_solved_J100 at hF
  exact hnx49 _ hF
theorem fr_X12_solved_B49 {N : Nat}  {nx49 : (Int × Int × Int) → Option (Int × Sto)} {v1 : Int} {v3 : Int} {v5 : Int} {v6 : Int} {σ : Sto} {res : Int × Sto} (hnx49 : ∀ q, nx49 q = some res → Fr (Wr_X12_solved) σ res.2) (hF : F_X12_solved_B49 N nx49 v1 v3 v5 v6 σ = some res) : Fr (Wr_X12_solved) σ res.2 := by
  unfold F_X12_solved_B49 at hF
  by_cases c7 : 144 ≤ v6
  · have hF := (if_pos c7).symm.trans hF
    exact fr_X12_solved_J106  hF
  · have hF := (if_neg c7).symm.trans hF
    obtain ⟨b8, hF⟩ := inb_some hF
    by_cases c9 : (σ.1 107 v6) = 0
    · have hF := (if_pos c9).symm.trans hF
      exact fr_X12_solved_J100 hnx49 hF
    · have hF := (if_neg c9).symm.trans hF
      obtain ⟨q10, eq10, hF⟩ := bind_some' hF
      exact fr_X12_solved_J100 hnx49 hF
theorem fr_X12_solved {N : Nat} {v1 : Int} {σ : Sto} {res : Int × Sto} (hF : F_X12_solved N v1 σ = some res) : Fr (Wr_X12_solved) σ res.2 := by
  unfold F_X12_solved at hF
  obtain ⟨q1, eq1, hF⟩ := bind_some' hF
  by_cases c2 : q1 = 0
  · have hF := (if_pos c2).symm.trans hF
    obtain rfl := Option.some.inj hF
    exact (Fr_up Fr.rf (by unfold Wr_X12_solved; omega))
  · have hF := (if_neg c2).symm.trans hF
    obtain ⟨q3, eq3, hF⟩ := bind_some' hF
    by_cases c4 : v1 = 0
    · have hF := (if_pos c4).symm.trans hF
      obtain rfl := Option.some.inj hF
      exact (Fr_tr (Fr_up Fr.rf (by unfold Wr_X12_solved; omega)) (Fr_mono (fr_X12_solves eq3) (fun a j h => by unfold Wr_X12_solves at h; unfold Wr_X12_solved; omega)))
    · have hF := (if_neg c4).symm.trans hF
      by_cases c5 : v1 = 2
      · have hF := (if_pos c5).symm.trans hF
        obtain rfl := Option.some.inj hF
        exact (Fr_tr (Fr_up Fr.rf (by unfold Wr_X12_solved; omega)) (Fr_mono (fr_X12_solves eq3) (fun a j h => by unfold Wr_X12_solves at h; unfold Wr_X12_solved; omega)))
      · have hF := (if_neg c5).symm.trans hF
        exact Fr_tr (Fr_tr (Fr_up Fr.rf (by unfold Wr_X12_solved; omega)) (Fr_mono (fr_X12_solves eq3) (fun a j h => by unfold Wr_X12_solves at h; unfold Wr_X12_solved; omega))) (loopK_ind (res := res) (P := fun (q : Int × Int × Int) => Fr (Wr_X12_solved) q3.2 res.2) (fun nx q hn hF => fr_X12_solved_B49 hn hF) N _ hF)
def Wr_X12_reached (a : Nat) (j : Int) : Prop := ((102 ≤ a ∧ a ≤ 110)) ∨ (a = 94 ∧ j = 2) ∨ (a = 94 ∧ j = 30) ∨ (a = 94 ∧ j = 37)
theorem fr_X12_reached_J43 {N : Nat}  {nx18 : (Int × Int) → Option (Int × Sto)} {v2 : Int} {t0 : Int} {t1 : Int} {σ : Sto} {res : Int × Sto} (hnx18 : ∀ q, nx18 q = some res → Fr (Wr_X12_reached) σ res.2) (hF : F_X12_reached_J43 N nx18 v2 t0 t1 σ = some res) : Fr (Wr_X12_reached) σ res.2 := by
  unfold F_X12_reached_J43 at hF
  exact hnx18 _ hF
theorem fr_X12_reached_B18 {N : Nat}  {nx18 : (Int × Int) → Option (Int × Sto)} {v1 : Int} {v2 : Int} {σ : Sto} {res : Int × Sto} (hnx18 : ∀ q, nx18 q = some res → Fr (Wr_X12_reached) σ res.2) (hF : F_X12_reached_B18 N nx18 v1 v2 σ = some res) : Fr (Wr_X12_reached) σ res.2 := by
  unfold F_X12_reached_B18 at hF
  by_cases c3 : (σ.1 94 14) ≤ v2
  · have hF := (if_pos c3).symm.trans hF
    obtain rfl := Option.some.inj hF
    exact Fr.rf
  · have hF := (if_neg c3).symm.trans hF
    obtain ⟨b4, hF⟩ := inb_some hF
    by_cases c5 : (σ.1 109 v2) ≤ 0
    · have hF := (if_pos c5).symm.trans hF
      exact fr_X12_reached_J43 hnx18 hF
    · have hF := (if_neg c5).symm.trans hF
      exact fr_X12_reached_J43 hnx18 hF
theorem fr_X12_reached {N : Nat}  {σ : Sto} {res : Int × Sto} (hF : F_X12_reached N  σ = some res) : Fr (Wr_X12_reached) σ res.2 := by
  unfold F_X12_reached at hF
  obtain ⟨q1, eq1, hF⟩ := bind_some' hF
  obtain ⟨q2, eq2, hF⟩ := bind_some' hF
  exact Fr_tr (Fr_tr (Fr_tr (Fr_up Fr.rf (by unfold Wr_X12_reached; omega)) (Fr_mono (fr_X12_solves eq1) (fun a j h => by unfold Wr_X12_solves at h; unfold Wr_X12_reached; omega))) (Fr_mono (fr_X12_laysRoutes eq2) (fun a j h => by unfold Wr_X12_laysRoutes at h; unfold Wr_X12_reached; omega))) (loopK_ind (res := res) (P := fun (q : Int × Int) => Fr (Wr_X12_reached) q2 res.2) (fun nx q hn hF => fr_X12_reached_B18 hn hF) N _ hF)
def Wr_X12_left (a : Nat) (j : Int) : Prop := ((102 ≤ a ∧ a ≤ 110)) ∨ (a = 94 ∧ j = 2) ∨ (a = 94 ∧ j = 30) ∨ (a = 94 ∧ j = 37)
theorem fr_X12_left {N : Nat} {v1 : Int} {σ : Sto} {res : Int × Sto} (hF : F_X12_left N v1 σ = some res) : Fr (Wr_X12_left) σ res.2 := by
  unfold F_X12_left at hF
  obtain ⟨q1, eq1, hF⟩ := bind_some' hF
  by_cases c2 : q1 = 0
  · have hF := (if_pos c2).symm.trans hF
    obtain rfl := Option.some.inj hF
    exact (Fr_up Fr.rf (by unfold Wr_X12_left; omega))
  · have hF := (if_neg c2).symm.trans hF
    obtain ⟨q3, eq3, hF⟩ := bind_some' hF
    obtain ⟨b4, hF⟩ := inb_some hF
    obtain rfl := Option.some.inj hF
    exact (Fr_tr (Fr_up Fr.rf (by unfold Wr_X12_left; omega)) (Fr_mono (fr_X12_solves eq3) (fun a j h => by unfold Wr_X12_solves at h; unfold Wr_X12_left; omega)))
def Wr_X12_pays (a : Nat) (j : Int) : Prop := ((102 ≤ a ∧ a ≤ 110)) ∨ (a = 94 ∧ j = 2) ∨ (a = 94 ∧ j = 30) ∨ (a = 94 ∧ j = 37)
theorem fr_X12_pays_J194 {N : Nat}  {nx127 : (Int × Int) → Option (Int × Sto)} {v1 : Int} {v2 : Int} {v3 : Int} {v4 : Int} {σ : Sto} {res : Int × Sto} (hnx127 : ∀ q, nx127 q = some res → Fr (Wr_X12_pays) σ res.2) (hF : F_X12_pays_J194 N nx127 v1 v2 v3 v4 σ = some res) : Fr (Wr_X12_pays) σ res.2 := by
  unfold F_X12_pays_J194 at hF
  exact hnx127 _ hF
theorem fr_X12_pays_J163 {N : Nat}  {nx127 : (Int × Int) → Option (Int × Sto)} {v1 : Int} {v2 : Int} {v3 : Int} {v4 : Int} {t1 : Int} {σ : Sto} {res : Int × Sto} (hnx127 : ∀ q, nx127 q = some res → Fr (Wr_X12_pays) σ res.2) (hF : F_X12_pays_J163 N nx127 v1 v2 v3 v4 t1 σ = some res) : Fr (Wr_X12_pays) σ res.2 := by
  unfold F_X12_pays_J163 at hF
  obtain ⟨q10, eq10, hF⟩ := bind_some' hF
  by_cases c11 : q10 = v1
  · have hF := (if_pos c11).symm.trans hF
    obtain ⟨b12, hF⟩ := inb_some hF
    obtain ⟨q13, eq13, hF⟩ := bind_some' hF
    exact fr_X12_pays_J194 hnx127 hF
  · have hF := (if_neg c11).symm.trans hF
    exact fr_X12_pays_J194 hnx127 hF
theorem fr_X12_pays_B127 {N : Nat}  {nx127 : (Int × Int) → Option (Int × Sto)} {v1 : Int} {v2 : Int} {v3 : Int} {v4 : Int} {σ : Sto} {res : Int × Sto} (hnx127 : ∀ q, nx127 q = some res → Fr (Wr_X12_pays) σ res.2) (hF : F_X12_pays_B127 N nx127 v1 v2 v3 v4 σ = some res) : Fr (Wr_X12_pays) σ res.2 := by
  unfold F_X12_pays_B127 at hF
  by_cases c7 : 144 ≤ v4
  · have hF := (if_pos c7).symm.trans hF
    obtain rfl := Option.some.inj hF
    exact Fr.rf
  · have hF := (if_neg c7).symm.trans hF
    obtain ⟨b8, hF⟩ := inb_some hF
    by_cases c9 : (σ.1 107 v4) ≤ 0
    · have hF := (if_pos c9).symm.trans hF
      exact fr_X12_pays_J194 hnx127 hF
    · have hF := (if_neg c9).symm.trans hF
      by_cases c14 : v2 = 0
      · have hF := (if_pos c14).symm.trans hF
        exact fr_X12_pays_J163 hnx127 hF
      · have hF := (if_neg c14).symm.trans hF
        exact fr_X12_pays_J163 hnx127 hF
theorem fr_X12_pays_J109 {N : Nat}  {nx34 : (Int × Int) → Option (Int × Sto)} {v1 : Int} {v2 : Int} {v4 : Int} {t0 : Int} {t1 : Int} {σ : Sto} {res : Int × Sto} (hnx34 : ∀ q, nx34 q = some res → Fr (Wr_X12_pays) σ res.2) (hF : F_X12_pays_J109 N nx34 v1 v2 v4 t0 t1 σ = some res) : Fr (Wr_X12_pays) σ res.2 := by
  unfold F_X12_pays_J109 at hF
  exact hnx34 _ hF
theorem fr_X12_pays_J69 {N : Nat}  {nx34 : (Int × Int) → Option (Int × Sto)} {v1 : Int} {v2 : Int} {v4 : Int} {v5 : Int} {t0 : Int} {t3 : Int} {σ : Sto} {res : Int × Sto} (hnx34 : ∀ q, nx34 q = some res → Fr (Wr_X12_pays) σ res.2) (hF : F_X12_pays_J69 N nx34 v1 v2 v4 v5 t0 t3 σ = some res) : Fr (Wr_X12_pays) σ res.2 := by
  unfold F_X12_pays_J69 at hF
  obtain ⟨q17, eq17, hF⟩ := bind_some' hF
  obtain ⟨q18, eq18, hF⟩ := bind_some' hF
  by_cases c19 : q18 = v1
  · have hF := (if_pos c19).symm.trans hF
    obtain ⟨q20, eq20, hF⟩ := bind_some' hF
    obtain ⟨q21, eq21, hF⟩ := bind_some' hF
    obtain ⟨q22, eq22, hF⟩ := bind_some' hF
    obtain ⟨q23, eq23, hF⟩ := bind_some' hF
    exact fr_X12_pays_J109 hnx34 hF
  · have hF := (if_neg c19).symm.trans hF
    exact fr_X12_pays_J109 hnx34 hF
theorem fr_X12_pays_B34 {N : Nat}  {nx34 : (Int × Int) → Option (Int × Sto)} {v1 : Int} {v2 : Int} {v3 : Int} {v4 : Int} {σ : Sto} {res : Int × Sto} (hnx34 : ∀ q, nx34 q = some res → Fr (Wr_X12_pays) σ res.2) (hF : F_X12_pays_B34 N nx34 v1 v2 v3 v4 σ = some res) : Fr (Wr_X12_pays) σ res.2 := by
  unfold F_X12_pays_B34 at hF
  obtain ⟨q15, eq15, hF⟩ := bind_some' hF
  by_cases c16 : q15 ≤ v4
  · have hF := (if_pos c16).symm.trans hF
    obtain rfl := Option.some.inj hF
    exact Fr.rf
  · have hF := (if_neg c16).symm.trans hF
    by_cases c24 : v2 = 2
    · have hF := (if_pos c24).symm.trans hF
      exact fr_X12_pays_J69 hnx34 hF
    · have hF := (if_neg c24).symm.trans hF
      exact fr_X12_pays_J69 hnx34 hF
theorem fr_X12_pays {N : Nat} {v1 : Int} {v2 : Int} {σ : Sto} {res : Int × Sto} (hF : F_X12_pays N v1 v2 σ = some res) : Fr (Wr_X12_pays) σ res.2 := by
  unfold F_X12_pays at hF
  obtain ⟨q1, eq1, hF⟩ := bind_some' hF
  by_cases c2 : q1 = 0
  · have hF := (if_pos c2).symm.trans hF
    obtain rfl := Option.some.inj hF
    exact (Fr_up Fr.rf (by unfold Wr_X12_pays; omega))
  · have hF := (if_neg c2).symm.trans hF
    obtain ⟨q3, eq3, hF⟩ := bind_some' hF
    by_cases c4 : q3 = 0
    · have hF := (if_pos c4).symm.trans hF
      obtain rfl := Option.some.inj hF
      exact (Fr_up Fr.rf (by unfold Wr_X12_pays; omega))
    · have hF := (if_neg c4).symm.trans hF
      by_cases c5 : v2 ≤ 1
      · have hF := (if_pos c5).symm.trans hF
        obtain ⟨q6, eq6, hF⟩ := bind_some' hF
        exact Fr_tr (Fr_tr (Fr_up Fr.rf (by unfold Wr_X12_pays; omega)) (Fr_mono (fr_X12_solves eq6) (fun a j h => by unfold Wr_X12_solves at h; unfold Wr_X12_pays; omega))) (loopK_ind (res := res) (P := fun (q : Int × Int) => Fr (Wr_X12_pays) q6.2 res.2) (fun nx q hn hF => fr_X12_pays_B127 hn hF) N _ hF)
      · have hF := (if_neg c5).symm.trans hF
        exact Fr_tr (Fr_up Fr.rf (by unfold Wr_X12_pays; omega)) (loopK_ind (res := res) (P := fun (q : Int × Int) => Fr (Wr_X12_pays) (upI σ 94 2 0) res.2) (fun nx q hn hF => fr_X12_pays_B34 hn hF) N _ hF)
def Wr_X12_laysBalances (a : Nat) (j : Int) : Prop := ((102 ≤ a ∧ a ≤ 112)) ∨ (a = 94 ∧ j = 30) ∨ (a = 94 ∧ j = 37)
theorem fr_X12_laysBalances_J235 {N : Nat}  {nx176 : (Int × Sto) → Option (Sto)} {v1 : Int} {σ : Sto} {res : Sto} (hnx176 : ∀ q, nx176 q = some res → Fr (Wr_X12_laysBalances) q.2 res) (hF : F_X12_laysBalances_J235 N nx176 v1 σ = some res) : Fr (Wr_X12_laysBalances) σ res := by
  unfold F_X12_laysBalances_J235 at hF
  exact Fr_tr Fr.rf (hnx176 _ hF)
theorem fr_X12_laysBalances_B191 {N : Nat}  {nx176 : (Int × Sto) → Option (Sto)} {nx191 : (Int × Sto) → Option (Sto)} {v1 : Int} {v2 : Int} {σ : Sto} {res : Sto} (hnx176 : ∀ q, nx176 q = some res → Fr (Wr_X12_laysBalances) q.2 res) (hnx191 : ∀ q, nx191 q = some res → Fr (Wr_X12_laysBalances) q.2 res) (hF : F_X12_laysBalances_B191 N nx176 nx191 v1 v2 σ = some res) : Fr (Wr_X12_laysBalances) σ res := by
  unfold F_X12_laysBalances_B191 at hF
  by_cases c4 : 8 ≤ v2
  · have hF := (if_pos c4).symm.trans hF
    exact fr_X12_laysBalances_J235 hnx176 hF
  · have hF := (if_neg c4).symm.trans hF
    obtain ⟨b5, hF⟩ := inb_some hF
    obtain ⟨b6, hF⟩ := inb_some hF
    obtain ⟨b7, hF⟩ := inb_some hF
    exact Fr_tr (Fr_up Fr.rf (by unfold Wr_X12_laysBalances; omega)) (hnx191 _ hF)
theorem fr_X12_laysBalances_B176 {N : Nat}  {nx176 : (Int × Sto) → Option (Sto)} {v1 : Int} {σ : Sto} {res : Sto} (hnx176 : ∀ q, nx176 q = some res → Fr (Wr_X12_laysBalances) q.2 res) (hF : F_X12_laysBalances_B176 N nx176 v1 σ = some res) : Fr (Wr_X12_laysBalances) σ res := by
  unfold F_X12_laysBalances_B176 at hF
  by_cases c2 : 8 ≤ v1
  · have hF := (if_pos c2).symm.trans hF
    obtain rfl := Option.some.inj hF
    exact Fr.rf
  · have hF := (if_neg c2).symm.trans hF
    obtain ⟨b3, hF⟩ := inb_some hF
    exact Fr_tr (Fr_up Fr.rf (by unfold Wr_X12_laysBalances; omega)) (loopK_ind (res := res) (P := fun (q : Int × Sto) => Fr (Wr_X12_laysBalances) q.2 res) (fun nx q hn hF => fr_X12_laysBalances_B191 hnx176 hn hF) N _ hF)
theorem fr_X12_laysBalances_J174 {N : Nat}    {σ : Sto} {res : Sto} (hF : F_X12_laysBalances_J174 N   σ = some res) : Fr (Wr_X12_laysBalances) σ res := by
  unfold F_X12_laysBalances_J174 at hF
  exact (loopK_ind (res := res) (P := fun (q : Int × Sto) => Fr (Wr_X12_laysBalances) q.2 res) (fun nx q hn hF => fr_X12_laysBalances_B176 hn hF) N _ hF)
theorem fr_X12_laysBalances_B98 {N : Nat}  {nx98 : (Int × Sto) → Option (Sto)} {v1 : Int} {σ : Sto} {res : Sto} (hnx98 : ∀ q, nx98 q = some res → Fr (Wr_X12_laysBalances) q.2 res) (hF : F_X12_laysBalances_B98 N nx98 v1 σ = some res) : Fr (Wr_X12_laysBalances) σ res := by
  unfold F_X12_laysBalances_B98 at hF
  obtain ⟨q8, eq8, hF⟩ := bind_some' hF
  by_cases c9 : q8 ≤ v1
  · have hF := (if_pos c9).symm.trans hF
    exact fr_X12_laysBalances_J174  hF
  · have hF := (if_neg c9).symm.trans hF
    obtain ⟨q10, eq10, hF⟩ := bind_some' hF
    obtain ⟨q11, eq11, hF⟩ := bind_some' hF
    obtain ⟨q12, eq12, hF⟩ := bind_some' hF
    obtain ⟨q13, eq13, hF⟩ := bind_some' hF
    obtain ⟨b14, hF⟩ := inb_some hF
    obtain ⟨q15, eq15, hF⟩ := bind_some' hF
    obtain ⟨q16, eq16, hF⟩ := bind_some' hF
    obtain ⟨q17, eq17, hF⟩ := bind_some' hF
    obtain ⟨q18, eq18, hF⟩ := bind_some' hF
    exact Fr_tr (Fr_up Fr.rf (by unfold Wr_X12_laysBalances; omega)) (hnx98 _ hF)
theorem fr_X12_laysBalances_J96 {N : Nat}    {σ : Sto} {res : Sto} (hF : F_X12_laysBalances_J96 N   σ = some res) : Fr (Wr_X12_laysBalances) σ res := by
  unfold F_X12_laysBalances_J96 at hF
  exact (loopK_ind (res := res) (P := fun (q : Int × Sto) => Fr (Wr_X12_laysBalances) q.2 res) (fun nx q hn hF => fr_X12_laysBalances_B98 hn hF) N _ hF)
theorem fr_X12_laysBalances_J90 {N : Nat}  {nx28 : (Int × Sto) → Option (Sto)} {v1 : Int} {σ : Sto} {res : Sto} (hnx28 : ∀ q, nx28 q = some res → Fr (Wr_X12_laysBalances) q.2 res) (hF : F_X12_laysBalances_J90 N nx28 v1 σ = some res) : Fr (Wr_X12_laysBalances) σ res := by
  unfold F_X12_laysBalances_J90 at hF
  exact Fr_tr Fr.rf (hnx28 _ hF)
theorem fr_X12_laysBalances_B28 {N : Nat}  {nx28 : (Int × Sto) → Option (Sto)} {v1 : Int} {σ : Sto} {res : Sto} (hnx28 : ∀ q, nx28 q = some res → Fr (Wr_X12_laysBalances) q.2 res) (hF : F_X12_laysBalances_B28 N nx28 v1 σ = some res) : Fr (Wr_X12_laysBalances) σ res := by
  unfold F_X12_laysBalances_B28 at hF
  by_cases c19 : 144 ≤ v1
  · have hF := (if_pos c19).symm.trans hF
    exact fr_X12_laysBalances_J96  hF
  · have hF := (if_neg c19).symm.trans hF
    obtain ⟨b20, hF⟩ := inb_some hF
    by_cases c21 : (σ.1 107 v1) ≤ 0
    · have hF := (if_pos c21).symm.trans hF
      exact fr_X12_laysBalances_J90 hnx28 hF
    · have hF := (if_neg c21).symm.trans hF
      obtain ⟨q22, eq22, hF⟩ := bind_some' hF
      obtain ⟨q23, eq23, hF⟩ := bind_some' hF
      obtain ⟨b24, hF⟩ := inb_some hF
      obtain ⟨q25, eq25, hF⟩ := bind_some' hF
      exact Fr_tr (Fr_up Fr.rf (by unfold Wr_X12_laysBalances; omega)) (fr_X12_laysBalances_J90 hnx28 hF)
theorem fr_X12_laysBalances_J26 {N : Nat}    {σ : Sto} {res : Sto} (hF : F_X12_laysBalances_J26 N   σ = some res) : Fr (Wr_X12_laysBalances) σ res := by
  unfold F_X12_laysBalances_J26 at hF
  exact (loopK_ind (res := res) (P := fun (q : Int × Sto) => Fr (Wr_X12_laysBalances) q.2 res) (fun nx q hn hF => fr_X12_laysBalances_B28 hn hF) N _ hF)
theorem fr_X12_laysBalances_B7 {N : Nat}  {nx7 : (Int × Sto) → Option (Sto)} {v1 : Int} {σ : Sto} {res : Sto} (hnx7 : ∀ q, nx7 q = some res → Fr (Wr_X12_laysBalances) q.2 res) (hF : F_X12_laysBalances_B7 N nx7 v1 σ = some res) : Fr (Wr_X12_laysBalances) σ res := by
  unfold F_X12_laysBalances_B7 at hF
  by_cases c26 : 64 ≤ v1
  · have hF := (if_pos c26).symm.trans hF
    exact fr_X12_laysBalances_J26  hF
  · have hF := (if_neg c26).symm.trans hF
    obtain ⟨b27, hF⟩ := inb_some hF
    exact Fr_tr (Fr_up Fr.rf (by unfold Wr_X12_laysBalances; omega)) (hnx7 _ hF)
theorem fr_X12_laysBalances {N : Nat}  {σ : Sto} {res : Sto} (hF : F_X12_laysBalances N  σ = some res) : Fr (Wr_X12_laysBalances) σ res := by
  unfold F_X12_laysBalances at hF
  obtain ⟨q1, eq1, hF⟩ := bind_some' hF
  exact Fr_tr (Fr_tr Fr.rf (Fr_mono (fr_X12_solves eq1) (fun a j h => by unfold Wr_X12_solves at h; unfold Wr_X12_laysBalances; omega))) (loopK_ind (res := res) (P := fun (q : Int × Sto) => Fr (Wr_X12_laysBalances) q.2 res) (fun nx q hn hF => fr_X12_laysBalances_B7 hn hF) N _ hF)
def Wr_X12_balance (a : Nat) (j : Int) : Prop := ((102 ≤ a ∧ a ≤ 112)) ∨ (a = 94 ∧ j = 2) ∨ (a = 94 ∧ j = 30) ∨ (a = 94 ∧ j = 37)
theorem fr_X12_balance {N : Nat} {v1 : Int} {σ : Sto} {res : Int × Sto} (hF : F_X12_balance N v1 σ = some res) : Fr (Wr_X12_balance) σ res.2 := by
  unfold F_X12_balance at hF
  obtain ⟨q1, eq1, hF⟩ := bind_some' hF
  by_cases c2 : q1 = 0
  · have hF := (if_pos c2).symm.trans hF
    obtain rfl := Option.some.inj hF
    exact (Fr_up Fr.rf (by unfold Wr_X12_balance; omega))
  · have hF := (if_neg c2).symm.trans hF
    obtain ⟨q3, eq3, hF⟩ := bind_some' hF
    obtain ⟨b4, hF⟩ := inb_some hF
    obtain rfl := Option.some.inj hF
    exact (Fr_tr (Fr_up Fr.rf (by unfold Wr_X12_balance; omega)) (Fr_mono (fr_X12_laysBalances eq3) (fun a j h => by unfold Wr_X12_laysBalances at h; unfold Wr_X12_balance; omega)))
def Wr_X12_owes (a : Nat) (j : Int) : Prop := ((102 ≤ a ∧ a ≤ 112)) ∨ (a = 94 ∧ j = 2) ∨ (a = 94 ∧ j = 30) ∨ (a = 94 ∧ j = 37)
theorem fr_X12_owes {N : Nat} {v1 : Int} {v2 : Int} {σ : Sto} {res : Int × Sto} (hF : F_X12_owes N v1 v2 σ = some res) : Fr (Wr_X12_owes) σ res.2 := by
  unfold F_X12_owes at hF
  obtain ⟨q1, eq1, hF⟩ := bind_some' hF
  by_cases c2 : q1 = 0
  · have hF := (if_pos c2).symm.trans hF
    obtain rfl := Option.some.inj hF
    exact (Fr_up Fr.rf (by unfold Wr_X12_owes; omega))
  · have hF := (if_neg c2).symm.trans hF
    by_cases c3 : v1 = v2
    · have hF := (if_pos c3).symm.trans hF
      obtain rfl := Option.some.inj hF
      exact (Fr_up Fr.rf (by unfold Wr_X12_owes; omega))
    · have hF := (if_neg c3).symm.trans hF
      obtain ⟨q4, eq4, hF⟩ := bind_some' hF
      obtain ⟨b5, hF⟩ := inb_some hF
      obtain ⟨b6, hF⟩ := inb_some hF
      obtain rfl := Option.some.inj hF
      exact (Fr_tr (Fr_up Fr.rf (by unfold Wr_X12_owes; omega)) (Fr_mono (fr_X12_laysBalances eq4) (fun a j h => by unfold Wr_X12_laysBalances at h; unfold Wr_X12_owes; omega)))
def Wr_X12_settlesOne (a : Nat) (j : Int) : Prop := (a = 112) ∨ (a = 94 ∧ j = 44) ∨ (a = 94 ∧ j = 45) ∨ (a = 94 ∧ j = 46)
theorem fr_X12_settlesOne_J138 {N : Nat}   {t1 : Int} {σ : Sto} {res : Int × Sto} (hF : F_X12_settlesOne_J138 N  t1 σ = some res) : Fr (Wr_X12_settlesOne) σ res.2 := by
  unfold F_X12_settlesOne_J138 at hF
  obtain ⟨b4, hF⟩ := inb_some hF
  obtain ⟨b5, hF⟩ := inb_some hF
  obtain rfl := Option.some.inj hF
  exact (Fr_up (Fr_up (Fr_up Fr.rf (by unfold Wr_X12_settlesOne; omega)) (by unfold Wr_X12_settlesOne; omega)) (by unfold Wr_X12_settlesOne; omega))
theorem fr_X12_settlesOne_J72 {N : Nat}    {σ : Sto} {res : Int × Sto} (hF : F_X12_settlesOne_J72 N   σ = some res) : Fr (Wr_X12_settlesOne) σ res.2 := by
  unfold F_X12_settlesOne_J72 at hF
  by_cases c1 : (σ.1 94 11) = 0
  · have hF := (if_pos c1).symm.trans hF
    obtain rfl := Option.some.inj hF
    exact Fr.rf
  · have hF := (if_neg c1).symm.trans hF
    obtain ⟨b2, hF⟩ := inb_some hF
    by_cases c3 : (σ.1 112 (σ.1 94 44)) < 0
    · have hF := (if_pos c3).symm.trans hF
      obtain ⟨b6, hF⟩ := inb_some hF
      by_cases c7 : (σ.1 112 (σ.1 94 45)) ≤ (jneg (σ.1 112 (σ.1 94 44)))
      · have hF := (if_pos c7).symm.trans hF
        exact fr_X12_settlesOne_J138  hF
      · have hF := (if_neg c7).symm.trans hF
        exact fr_X12_settlesOne_J138  hF
    · have hF := (if_neg c3).symm.trans hF
      obtain rfl := Option.some.inj hF
      exact Fr.rf
theorem fr_X12_settlesOne_J66 {N : Nat}  {nx12 : (Int × Sto) → Option (Int × Sto)} {v1 : Int} {σ : Sto} {res : Int × Sto} (hnx12 : ∀ q, nx12 q = some res → Fr (Wr_X12_settlesOne) q.2 res.2) (hF : F_X12_settlesOne_J66 N nx12 v1 σ = some res) : Fr (Wr_X12_settlesOne) σ res.2 := by
  unfold F_X12_settlesOne_J66 at hF
  exact Fr_tr Fr.rf (hnx12 _ hF)
theorem fr_X12_settlesOne_J43 {N : Nat}  {nx12 : (Int × Sto) → Option (Int × Sto)} {v1 : Int} {σ : Sto} {res : Int × Sto} (hnx12 : ∀ q, nx12 q = some res → Fr (Wr_X12_settlesOne) q.2 res.2) (hF : F_X12_settlesOne_J43 N nx12 v1 σ = some res) : Fr (Wr_X12_settlesOne) σ res.2 := by
  unfold F_X12_settlesOne_J43 at hF
  obtain ⟨b9, hF⟩ := inb_some hF
  obtain ⟨b10, hF⟩ := inb_some hF
  by_cases c11 : (σ.1 112 v1) ≤ (σ.1 112 (σ.1 94 45))
  · have hF := (if_pos c11).symm.trans hF
    exact fr_X12_settlesOne_J66 hnx12 hF
  · have hF := (if_neg c11).symm.trans hF
    exact Fr_tr (Fr_up Fr.rf (by unfold Wr_X12_settlesOne; omega)) (fr_X12_settlesOne_J66 hnx12 hF)
theorem fr_X12_settlesOne_B12 {N : Nat}  {nx12 : (Int × Sto) → Option (Int × Sto)} {v1 : Int} {σ : Sto} {res : Int × Sto} (hnx12 : ∀ q, nx12 q = some res → Fr (Wr_X12_settlesOne) q.2 res.2) (hF : F_X12_settlesOne_B12 N nx12 v1 σ = some res) : Fr (Wr_X12_settlesOne) σ res.2 := by
  unfold F_X12_settlesOne_B12 at hF
  by_cases c8 : (σ.1 94 11) ≤ v1
  · have hF := (if_pos c8).symm.trans hF
    exact fr_X12_settlesOne_J72  hF
  · have hF := (if_neg c8).symm.trans hF
    obtain ⟨b12, hF⟩ := inb_some hF
    obtain ⟨b13, hF⟩ := inb_some hF
    by_cases c14 : (σ.1 112 (σ.1 94 44)) ≤ (σ.1 112 v1)
    · have hF := (if_pos c14).symm.trans hF
      exact fr_X12_settlesOne_J43 hnx12 hF
    · have hF := (if_neg c14).symm.trans hF
      exact Fr_tr (Fr_up Fr.rf (by unfold Wr_X12_settlesOne; omega)) (fr_X12_settlesOne_J43 hnx12 hF)
theorem fr_X12_settlesOne {N : Nat}  {σ : Sto} {res : Int × Sto} (hF : F_X12_settlesOne N  σ = some res) : Fr (Wr_X12_settlesOne) σ res.2 := by
  unfold F_X12_settlesOne at hF
  exact Fr_tr (Fr_up (Fr_up Fr.rf (by unfold Wr_X12_settlesOne; omega)) (by unfold Wr_X12_settlesOne; omega)) (loopK_ind (res := res) (P := fun (q : Int × Sto) => Fr (Wr_X12_settlesOne) q.2 res.2) (fun nx q hn hF => fr_X12_settlesOne_B12 hn hF) N _ hF)
def Wr_X12_settles (a : Nat) (j : Int) : Prop := ((102 ≤ a ∧ a ≤ 112)) ∨ (a = 94 ∧ j = 2) ∨ (a = 94 ∧ j = 30) ∨ (a = 94 ∧ j = 37) ∨ (a = 94 ∧ j = 44) ∨ (a = 94 ∧ j = 45) ∨ (a = 94 ∧ j = 46)
theorem fr_X12_settles_B11 {N : Nat}  {nx11 : (Int × Sto) → Option (Int × Sto)} {v1 : Int} {σ : Sto} {res : Int × Sto} (hnx11 : ∀ q, nx11 q = some res → Fr (Wr_X12_settles) q.2 res.2) (hF : F_X12_settles_B11 N nx11 v1 σ = some res) : Fr (Wr_X12_settles) σ res.2 := by
  unfold F_X12_settles_B11 at hF
  obtain ⟨q2, eq2, hF⟩ := bind_some' hF
  by_cases c3 : q2.1 = 0
  · have hF := (if_pos c3).symm.trans hF
    obtain rfl := Option.some.inj hF
    exact (Fr_tr Fr.rf (Fr_mono (fr_X12_settlesOne eq2) (fun a j h => by unfold Wr_X12_settlesOne at h; unfold Wr_X12_settles; omega)))
  · have hF := (if_neg c3).symm.trans hF
    exact Fr_tr (Fr_tr Fr.rf (Fr_mono (fr_X12_settlesOne eq2) (fun a j h => by unfold Wr_X12_settlesOne at h; unfold Wr_X12_settles; omega))) (hnx11 _ hF)
theorem fr_X12_settles {N : Nat}  {σ : Sto} {res : Int × Sto} (hF : F_X12_settles N  σ = some res) : Fr (Wr_X12_settles) σ res.2 := by
  unfold F_X12_settles at hF
  obtain ⟨q1, eq1, hF⟩ := bind_some' hF
  exact Fr_tr (Fr_tr (Fr_up Fr.rf (by unfold Wr_X12_settles; omega)) (Fr_mono (fr_X12_laysBalances eq1) (fun a j h => by unfold Wr_X12_laysBalances at h; unfold Wr_X12_settles; omega))) (loopK_ind (res := res) (P := fun (q : Int × Sto) => Fr (Wr_X12_settles) q.2 res.2) (fun nx q hn hF => fr_X12_settles_B11 hn hF) N _ hF)
def Wr_X12_settling (a : Nat) (j : Int) : Prop := ((102 ≤ a ∧ a ≤ 112)) ∨ (a = 94 ∧ j = 2) ∨ (a = 94 ∧ j = 30) ∨ (a = 94 ∧ j = 37) ∨ (a = 94 ∧ j = 44) ∨ (a = 94 ∧ j = 45) ∨ (a = 94 ∧ j = 46)
theorem fr_X12_settling_J47 {N : Nat}   {v2 : Int} {σ : Sto} {res : Int × Sto} (hF : F_X12_settling_J47 N  v2 σ = some res) : Fr (Wr_X12_settling) σ res.2 := by
  unfold F_X12_settling_J47 at hF
  by_cases c5 : v2 = 0
  · have hF := (if_pos c5).symm.trans hF
    obtain rfl := Option.some.inj hF
    exact Fr.rf
  · have hF := (if_neg c5).symm.trans hF
    by_cases c6 : v2 = 1
    · have hF := (if_pos c6).symm.trans hF
      obtain rfl := Option.some.inj hF
      exact Fr.rf
    · have hF := (if_neg c6).symm.trans hF
      obtain rfl := Option.some.inj hF
      exact Fr.rf
theorem fr_X12_settling_B26 {N : Nat}  {nx26 : (Int × Sto) → Option (Int × Sto)} {v1 : Int} {v2 : Int} {v3 : Int} {σ : Sto} {res : Int × Sto} (hnx26 : ∀ q, nx26 q = some res → Fr (Wr_X12_settling) q.2 res.2) (hF : F_X12_settling_B26 N nx26 v1 v2 v3 σ = some res) : Fr (Wr_X12_settling) σ res.2 := by
  unfold F_X12_settling_B26 at hF
  by_cases c7 : v1 < v3
  · have hF := (if_pos c7).symm.trans hF
    exact fr_X12_settling_J47  hF
  · have hF := (if_neg c7).symm.trans hF
    obtain ⟨q8, eq8, hF⟩ := bind_some' hF
    by_cases c9 : q8.1 = 0
    · have hF := (if_pos c9).symm.trans hF
      obtain rfl := Option.some.inj hF
      exact (Fr_tr Fr.rf (Fr_mono (fr_X12_settlesOne eq8) (fun a j h => by unfold Wr_X12_settlesOne at h; unfold Wr_X12_settling; omega)))
    · have hF := (if_neg c9).symm.trans hF
      exact Fr_tr (Fr_tr Fr.rf (Fr_mono (fr_X12_settlesOne eq8) (fun a j h => by unfold Wr_X12_settlesOne at h; unfold Wr_X12_settling; omega))) (hnx26 _ hF)
theorem fr_X12_settling {N : Nat} {v1 : Int} {v2 : Int} {σ : Sto} {res : Int × Sto} (hF : F_X12_settling N v1 v2 σ = some res) : Fr (Wr_X12_settling) σ res.2 := by
  unfold F_X12_settling at hF
  by_cases c1 : v1 < 0
  · have hF := (if_pos c1).symm.trans hF
    obtain rfl := Option.some.inj hF
    exact (Fr_up Fr.rf (by unfold Wr_X12_settling; omega))
  · have hF := (if_neg c1).symm.trans hF
    obtain ⟨q2, eq2, hF⟩ := bind_some' hF
    by_cases c3 : q2 = 0
    · have hF := (if_pos c3).symm.trans hF
      obtain rfl := Option.some.inj hF
      exact (Fr_up Fr.rf (by unfold Wr_X12_settling; omega))
    · have hF := (if_neg c3).symm.trans hF
      obtain ⟨q4, eq4, hF⟩ := bind_some' hF
      exact Fr_tr (Fr_tr (Fr_up Fr.rf (by unfold Wr_X12_settling; omega)) (Fr_mono (fr_X12_laysBalances eq4) (fun a j h => by unfold Wr_X12_laysBalances at h; unfold Wr_X12_settling; omega))) (loopK_ind (res := res) (P := fun (q : Int × Sto) => Fr (Wr_X12_settling) q.2 res.2) (fun nx q hn hF => fr_X12_settling_B26 hn hF) N _ hF)
def Wr_X12_tax (a : Nat) (j : Int) : Prop := ((102 ≤ a ∧ a ≤ 110)) ∨ (a = 94 ∧ j = 2) ∨ (a = 94 ∧ j = 30) ∨ (a = 94 ∧ j = 37)
theorem fr_X12_tax_J76 {N : Nat}  {nx24 : (Int × Int) → Option (Int × Sto)} {v1 : Int} {v2 : Int} {v3 : Int} {σ : Sto} {res : Int × Sto} (hnx24 : ∀ q, nx24 q = some res → Fr (Wr_X12_tax) σ res.2) (hF : F_X12_tax_J76 N nx24 v1 v2 v3 σ = some res) : Fr (Wr_X12_tax) σ res.2 := by
  unfold F_X12_tax_J76 at hF
  exact hnx24 _ hF
theorem fr_X12_tax_B24 {N : Nat}  {nx24 : (Int × Int) → Option (Int × Sto)} {v1 : Int} {v2 : Int} {v3 : Int} {σ : Sto} {res : Int × Sto} (hnx24 : ∀ q, nx24 q = some res → Fr (Wr_X12_tax) σ res.2) (hF : F_X12_tax_B24 N nx24 v1 v2 v3 σ = some res) : Fr (Wr_X12_tax) σ res.2 := by
  unfold F_X12_tax_B24 at hF
  by_cases c4 : (σ.1 94 14) ≤ v3
  · have hF := (if_pos c4).symm.trans hF
    obtain rfl := Option.some.inj hF
    exact Fr.rf
  · have hF := (if_neg c4).symm.trans hF
    obtain ⟨q5, eq5, hF⟩ := bind_some' hF
    by_cases c6 : q5 = v1
    · have hF := (if_pos c6).symm.trans hF
      obtain ⟨q7, eq7, hF⟩ := bind_some' hF
      by_cases c8 : q7 ≤ 0
      · have hF := (if_pos c8).symm.trans hF
        exact fr_X12_tax_J76 hnx24 hF
      · have hF := (if_neg c8).symm.trans hF
        obtain ⟨b9, hF⟩ := inb_some hF
        obtain ⟨b10, hF⟩ := inb_some hF
        exact fr_X12_tax_J76 hnx24 hF
    · have hF := (if_neg c6).symm.trans hF
      exact fr_X12_tax_J76 hnx24 hF
theorem fr_X12_tax {N : Nat} {v1 : Int} {σ : Sto} {res : Int × Sto} (hF : F_X12_tax N v1 σ = some res) : Fr (Wr_X12_tax) σ res.2 := by
  unfold F_X12_tax at hF
  obtain ⟨q1, eq1, hF⟩ := bind_some' hF
  by_cases c2 : q1 = 0
  · have hF := (if_pos c2).symm.trans hF
    obtain rfl := Option.some.inj hF
    exact (Fr_up Fr.rf (by unfold Wr_X12_tax; omega))
  · have hF := (if_neg c2).symm.trans hF
    obtain ⟨q3, eq3, hF⟩ := bind_some' hF
    exact Fr_tr (Fr_tr (Fr_up Fr.rf (by unfold Wr_X12_tax; omega)) (Fr_mono (fr_X12_solves eq3) (fun a j h => by unfold Wr_X12_solves at h; unfold Wr_X12_tax; omega))) (loopK_ind (res := res) (P := fun (q : Int × Int) => Fr (Wr_X12_tax) q3.2 res.2) (fun nx q hn hF => fr_X12_tax_B24 hn hF) N _ hF)
def Wr_X12_without (a : Nat) (j : Int) : Prop := ((101 ≤ a ∧ a ≤ 110)) ∨ (a = 94 ∧ j = 2) ∨ (a = 94 ∧ j = 24) ∨ (a = 94 ∧ j = 30) ∨ (a = 94 ∧ j = 37) ∨ (a = 94 ∧ j = 38)
theorem fr_X12_without_J128 {N : Nat}   {v1 : Int} {v2 : Int} {σ : Sto} {res : Int × Sto} (hF : F_X12_without_J128 N  v1 v2 σ = some res) : Fr (Wr_X12_without) σ res.2 := by
  unfold F_X12_without_J128 at hF
  obtain ⟨q4, eq4, hF⟩ := bind_some' hF
  obtain ⟨q5, eq5, hF⟩ := bind_some' hF
  obtain rfl := Option.some.inj hF
  exact (Fr_up (Fr_up (Fr_tr (Fr_up (Fr_tr Fr.rf (Fr_mono (fr_X12_lay eq4) (fun a j h => by unfold Wr_X12_lay at h; unfold Wr_X12_without; omega))) (by unfold Wr_X12_without; omega)) (Fr_mono (fr_X12_solves eq5) (fun a j h => by unfold Wr_X12_solves at h; unfold Wr_X12_without; omega))) (by unfold Wr_X12_without; omega)) (by unfold Wr_X12_without; omega))
theorem fr_X12_without_J122 {N : Nat}  {nx30 : (Int × Int × Sto) → Option (Int × Sto)} {v1 : Int} {v2 : Int} {v3 : Int} {σ : Sto} {res : Int × Sto} (hnx30 : ∀ q, nx30 q = some res → Fr (Wr_X12_without) q.2.2 res.2) (hF : F_X12_without_J122 N nx30 v1 v2 v3 σ = some res) : Fr (Wr_X12_without) σ res.2 := by
  unfold F_X12_without_J122 at hF
  exact Fr_tr Fr.rf (hnx30 _ hF)
theorem fr_X12_without_J119 {N : Nat}  {nx30 : (Int × Int × Sto) → Option (Int × Sto)} {v1 : Int} {v2 : Int} {v3 : Int} {σ : Sto} {res : Int × Sto} (hnx30 : ∀ q, nx30 q = some res → Fr (Wr_X12_without) q.2.2 res.2) (hF : F_X12_without_J119 N nx30 v1 v2 v3 σ = some res) : Fr (Wr_X12_without) σ res.2 := by
  unfold F_X12_without_J119 at hF
  exact fr_X12_without_J122 hnx30 hF
theorem fr_X12_without_B85 {N : Nat}  {nx30 : (Int × Int × Sto) → Option (Int × Sto)} {nx85 : (Int × Sto) → Option (Int × Sto)} {v1 : Int} {v2 : Int} {v3 : Int} {v4 : Int} {v5 : Int} {σ : Sto} {res : Int × Sto} (hnx30 : ∀ q, nx30 q = some res → Fr (Wr_X12_without) q.2.2 res.2) (hnx85 : ∀ q, nx85 q = some res → Fr (Wr_X12_without) q.2 res.2) (hF : F_X12_without_B85 N nx30 nx85 v1 v2 v3 v4 v5 σ = some res) : Fr (Wr_X12_without) σ res.2 := by
  unfold F_X12_without_B85 at hF
  by_cases c14 : 3 ≤ v5
  · have hF := (if_pos c14).symm.trans hF
    exact fr_X12_without_J119 hnx30 hF
  · have hF := (if_neg c14).symm.trans hF
    obtain ⟨b15, hF⟩ := inb_some hF
    obtain ⟨q16, eq16, hF⟩ := bind_some' hF
    exact Fr_tr (Fr_tr Fr.rf (Fr_mono (fr_X12_lay eq16) (fun a j h => by unfold Wr_X12_lay at h; unfold Wr_X12_without; omega))) (hnx85 _ hF)
theorem fr_X12_without_B30 {N : Nat}  {nx30 : (Int × Int × Sto) → Option (Int × Sto)} {v1 : Int} {v2 : Int} {v3 : Int} {σ : Sto} {res : Int × Sto} (hnx30 : ∀ q, nx30 q = some res → Fr (Wr_X12_without) q.2.2 res.2) (hF : F_X12_without_B30 N nx30 v1 v2 v3 σ = some res) : Fr (Wr_X12_without) σ res.2 := by
  unfold F_X12_without_B30 at hF
  obtain ⟨b6, hF⟩ := inb_some hF
  by_cases c7 : (σ.1 101 0) ≤ v3
  · have hF := (if_pos c7).symm.trans hF
    exact fr_X12_without_J128  hF
  · have hF := (if_neg c7).symm.trans hF
    obtain ⟨b8, hF⟩ := inb_some hF
    obtain ⟨q9, eq9, hF⟩ := bind_some' hF
    by_cases c10 : q9 = v1
    · have hF := (if_pos c10).symm.trans hF
      exact fr_X12_without_J122 hnx30 hF
    · have hF := (if_neg c10).symm.trans hF
      obtain ⟨b11, hF⟩ := inb_some hF
      obtain ⟨q12, eq12, hF⟩ := bind_some' hF
      by_cases c13 : q12 = v1
      · have hF := (if_pos c13).symm.trans hF
        exact fr_X12_without_J122 hnx30 hF
      · have hF := (if_neg c13).symm.trans hF
        exact (loopK_ind (res := res) (P := fun (q : Int × Sto) => Fr (Wr_X12_without) q.2 res.2) (fun nx q hn hF => fr_X12_without_B85 hnx30 hn hF) N _ hF)
theorem fr_X12_without {N : Nat} {v1 : Int} {σ : Sto} {res : Int × Sto} (hF : F_X12_without N v1 σ = some res) : Fr (Wr_X12_without) σ res.2 := by
  unfold F_X12_without at hF
  obtain ⟨q1, eq1, hF⟩ := bind_some' hF
  by_cases c2 : q1 = 0
  · have hF := (if_pos c2).symm.trans hF
    obtain rfl := Option.some.inj hF
    exact (Fr_up Fr.rf (by unfold Wr_X12_without; omega))
  · have hF := (if_neg c2).symm.trans hF
    obtain ⟨q3, eq3, hF⟩ := bind_some' hF
    exact Fr_tr (Fr_up (Fr_tr (Fr_up Fr.rf (by unfold Wr_X12_without; omega)) (Fr_mono (fr_X12_copyBank eq3) (fun a j h => by unfold Wr_X12_copyBank at h; unfold Wr_X12_without; omega))) (by unfold Wr_X12_without; omega)) (loopK_ind (res := res) (P := fun (q : Int × Int × Sto) => Fr (Wr_X12_without) q.2.2 res.2) (fun nx q hn hF => fr_X12_without_B30 hn hF) N _ hF)
def Wr_X12_worth (a : Nat) (j : Int) : Prop := ((102 ≤ a ∧ a ≤ 110)) ∨ (a = 94 ∧ j = 2) ∨ (a = 94 ∧ j = 30) ∨ (a = 94 ∧ j = 37)
theorem fr_X12_worth {N : Nat} {v1 : Int} {v2 : Int} {v3 : Int} {σ : Sto} {res : Int × Sto} (hF : F_X12_worth N v1 v2 v3 σ = some res) : Fr (Wr_X12_worth) σ res.2 := by
  unfold F_X12_worth at hF
  obtain ⟨q1, eq1, hF⟩ := bind_some' hF
  by_cases c2 : q1 = 0
  · have hF := (if_pos c2).symm.trans hF
    obtain rfl := Option.some.inj hF
    exact (Fr_up Fr.rf (by unfold Wr_X12_worth; omega))
  · have hF := (if_neg c2).symm.trans hF
    obtain ⟨q3, eq3, hF⟩ := bind_some' hF
    by_cases c4 : q3 = 0
    · have hF := (if_pos c4).symm.trans hF
      obtain rfl := Option.some.inj hF
      exact (Fr_up Fr.rf (by unfold Wr_X12_worth; omega))
    · have hF := (if_neg c4).symm.trans hF
      obtain ⟨q5, eq5, hF⟩ := bind_some' hF
      obtain ⟨b6, hF⟩ := inb_some hF
      obtain ⟨q7, eq7, hF⟩ := bind_some' hF
      obtain ⟨b8, hF⟩ := inb_some hF
      obtain ⟨q9, eq9, hF⟩ := bind_some' hF
      obtain rfl := Option.some.inj hF
      exact (Fr_tr (Fr_up (Fr_tr (Fr_tr (Fr_up Fr.rf (by unfold Wr_X12_worth; omega)) (Fr_mono (fr_X12_solves eq5) (fun a j h => by unfold Wr_X12_solves at h; unfold Wr_X12_worth; omega))) (Fr_mono (fr_X12_laysAll eq7) (fun a j h => by unfold Wr_X12_laysAll at h; unfold Wr_X12_worth; omega))) (by unfold Wr_X12_worth; omega)) (Fr_mono (fr_X12_relieves eq9) (fun a j h => by unfold Wr_X12_relieves at h; unfold Wr_X12_worth; omega)))
def Wr_X12_lack (a : Nat) (j : Int) : Prop := ((102 ≤ a ∧ a ≤ 110)) ∨ (a = 94 ∧ j = 2) ∨ (a = 94 ∧ j = 30) ∨ (a = 94 ∧ j = 37)
theorem fr_X12_lack_J85 {N : Nat}   {v4 : Int} {t1 : Int} {t2 : Int} {σ : Sto} {res : Int × Sto} (hF : F_X12_lack_J85 N  v4 t1 t2 σ = some res) : Fr (Wr_X12_lack) σ res.2 := by
  unfold F_X12_lack_J85 at hF
  obtain ⟨b5, hF⟩ := inb_some hF
  obtain ⟨q6, eq6, hF⟩ := bind_some' hF
  obtain rfl := Option.some.inj hF
  exact (Fr_tr (Fr_up Fr.rf (by unfold Wr_X12_lack; omega)) (Fr_mono (fr_X12_relieves eq6) (fun a j h => by unfold Wr_X12_relieves at h; unfold Wr_X12_lack; omega)))
theorem fr_X12_lack {N : Nat} {v1 : Int} {v2 : Int} {v3 : Int} {σ : Sto} {res : Int × Sto} (hF : F_X12_lack N v1 v2 v3 σ = some res) : Fr (Wr_X12_lack) σ res.2 := by
  unfold F_X12_lack at hF
  obtain ⟨q1, eq1, hF⟩ := bind_some' hF
  by_cases c2 : q1 = 0
  · have hF := (if_pos c2).symm.trans hF
    obtain rfl := Option.some.inj hF
    exact (Fr_up Fr.rf (by unfold Wr_X12_lack; omega))
  · have hF := (if_neg c2).symm.trans hF
    obtain ⟨q3, eq3, hF⟩ := bind_some' hF
    by_cases c4 : q3 = 0
    · have hF := (if_pos c4).symm.trans hF
      obtain rfl := Option.some.inj hF
      exact (Fr_up Fr.rf (by unfold Wr_X12_lack; omega))
    · have hF := (if_neg c4).symm.trans hF
      obtain ⟨q7, eq7, hF⟩ := bind_some' hF
      obtain ⟨b8, hF⟩ := inb_some hF
      obtain ⟨q9, eq9, hF⟩ := bind_some' hF
      obtain ⟨b10, hF⟩ := inb_some hF
      by_cases c11 : (q9.1 106 (ja (jm 12 v1) v2)) ≤ v3
      · have hF := (if_pos c11).symm.trans hF
        exact Fr_tr (Fr_tr (Fr_tr (Fr_up Fr.rf (by unfold Wr_X12_lack; omega)) (Fr_mono (fr_X12_solves eq7) (fun a j h => by unfold Wr_X12_solves at h; unfold Wr_X12_lack; omega))) (Fr_mono (fr_X12_laysAll eq9) (fun a j h => by unfold Wr_X12_laysAll at h; unfold Wr_X12_lack; omega))) (fr_X12_lack_J85  hF)
      · have hF := (if_neg c11).symm.trans hF
        exact Fr_tr (Fr_tr (Fr_tr (Fr_up Fr.rf (by unfold Wr_X12_lack; omega)) (Fr_mono (fr_X12_solves eq7) (fun a j h => by unfold Wr_X12_solves at h; unfold Wr_X12_lack; omega))) (Fr_mono (fr_X12_laysAll eq9) (fun a j h => by unfold Wr_X12_laysAll at h; unfold Wr_X12_lack; omega))) (fr_X12_lack_J85  hF)
def Wr_X12_byGateOf (a : Nat) (j : Int) : Prop := ((102 ≤ a ∧ a ≤ 110)) ∨ (a = 94 ∧ j = 30) ∨ (a = 94 ∧ j = 37)
theorem fr_X12_byGateOf {N : Nat} {v1 : Int} {σ : Sto} {res : Int × Sto} (hF : F_X12_byGateOf N v1 σ = some res) : Fr (Wr_X12_byGateOf) σ res.2 := by
  unfold F_X12_byGateOf at hF
  obtain ⟨q1, eq1, hF⟩ := bind_some' hF
  obtain ⟨q2, eq2, hF⟩ := bind_some' hF
  obtain rfl := Option.some.inj hF
  exact (Fr_tr (Fr_tr Fr.rf (Fr_mono (fr_X12_laysAll eq1) (fun a j h => by unfold Wr_X12_laysAll at h; unfold Wr_X12_byGateOf; omega))) (Fr_mono (fr_X12_relieves eq2) (fun a j h => by unfold Wr_X12_relieves at h; unfold Wr_X12_byGateOf; omega)))
def Wr_X12_byCarry (a : Nat) (j : Int) : Prop := ((102 ≤ a ∧ a ≤ 110)) ∨ (a = 94 ∧ j = 2) ∨ (a = 94 ∧ j = 30) ∨ (a = 94 ∧ j = 33) ∨ (a = 94 ∧ j = 37)
theorem fr_X12_byCarry {N : Nat} {v1 : Int} {σ : Sto} {res : Int × Sto} (hF : F_X12_byCarry N v1 σ = some res) : Fr (Wr_X12_byCarry) σ res.2 := by
  unfold F_X12_byCarry at hF
  obtain ⟨q1, eq1, hF⟩ := bind_some' hF
  by_cases c2 : q1 = 0
  · have hF := (if_pos c2).symm.trans hF
    obtain rfl := Option.some.inj hF
    exact (Fr_up Fr.rf (by unfold Wr_X12_byCarry; omega))
  · have hF := (if_neg c2).symm.trans hF
    obtain ⟨b3, hF⟩ := inb_some hF
    obtain ⟨q4, eq4, hF⟩ := bind_some' hF
    obtain ⟨b5, hF⟩ := inb_some hF
    obtain rfl := Option.some.inj hF
    exact (Fr_up (Fr_tr (Fr_up (Fr_up Fr.rf (by unfold Wr_X12_byCarry; omega)) (by unfold Wr_X12_byCarry; omega)) (Fr_mono (fr_X12_byGateOf eq4) (fun a j h => by unfold Wr_X12_byGateOf at h; unfold Wr_X12_byCarry; omega))) (by unfold Wr_X12_byCarry; omega))
def Wr_X12_carried (a : Nat) (j : Int) : Prop := ((102 ≤ a ∧ a ≤ 110)) ∨ (a = 94 ∧ j = 2) ∨ (a = 94 ∧ j = 30) ∨ (a = 94 ∧ j = 37)
theorem fr_X12_carried_J153 {N : Nat}  {nx102 : (Int × Int) → Option (Int × Sto)} {v1 : Int} {v3 : Int} {t0 : Int} {t1 : Int} {σ : Sto} {res : Int × Sto} (hnx102 : ∀ q, nx102 q = some res → Fr (Wr_X12_carried) σ res.2) (hF : F_X12_carried_J153 N nx102 v1 v3 t0 t1 σ = some res) : Fr (Wr_X12_carried) σ res.2 := by
  unfold F_X12_carried_J153 at hF
  exact hnx102 _ hF
theorem fr_X12_carried_J152 {N : Nat}  {nx102 : (Int × Int) → Option (Int × Sto)} {v1 : Int} {v3 : Int} {t0 : Int} {σ : Sto} {res : Int × Sto} (hnx102 : ∀ q, nx102 q = some res → Fr (Wr_X12_carried) σ res.2) (hF : F_X12_carried_J152 N nx102 v1 v3 t0 σ = some res) : Fr (Wr_X12_carried) σ res.2 := by
  unfold F_X12_carried_J152 at hF
  exact fr_X12_carried_J153 hnx102 hF
theorem fr_X12_carried_J140 {N : Nat}  {nx102 : (Int × Int) → Option (Int × Sto)} {v1 : Int} {v3 : Int} {t0 : Int} {t1 : Int} {t2 : Int} {σ : Sto} {res : Int × Sto} (hnx102 : ∀ q, nx102 q = some res → Fr (Wr_X12_carried) σ res.2) (hF : F_X12_carried_J140 N nx102 v1 v3 t0 t1 t2 σ = some res) : Fr (Wr_X12_carried) σ res.2 := by
  unfold F_X12_carried_J140 at hF
  by_cases c8 : t1 = t2
  · have hF := (if_pos c8).symm.trans hF
    obtain ⟨b9, hF⟩ := inb_some hF
    exact fr_X12_carried_J153 hnx102 hF
  · have hF := (if_neg c8).symm.trans hF
    exact fr_X12_carried_J152 hnx102 hF
theorem fr_X12_carried_B102 {N : Nat}  {nx102 : (Int × Int) → Option (Int × Sto)} {v1 : Int} {v2 : Int} {v3 : Int} {σ : Sto} {res : Int × Sto} (hnx102 : ∀ q, nx102 q = some res → Fr (Wr_X12_carried) σ res.2) (hF : F_X12_carried_B102 N nx102 v1 v2 v3 σ = some res) : Fr (Wr_X12_carried) σ res.2 := by
  unfold F_X12_carried_B102 at hF
  by_cases c5 : 144 ≤ v3
  · have hF := (if_pos c5).symm.trans hF
    obtain rfl := Option.some.inj hF
    exact Fr.rf
  · have hF := (if_neg c5).symm.trans hF
    obtain ⟨b6, hF⟩ := inb_some hF
    by_cases c7 : (σ.1 107 v3) ≤ 0
    · have hF := (if_pos c7).symm.trans hF
      exact fr_X12_carried_J152 hnx102 hF
    · have hF := (if_neg c7).symm.trans hF
      obtain ⟨q10, eq10, hF⟩ := bind_some' hF
      by_cases c11 : v1 = 0
      · have hF := (if_pos c11).symm.trans hF
        exact fr_X12_carried_J140 hnx102 hF
      · have hF := (if_neg c11).symm.trans hF
        exact fr_X12_carried_J140 hnx102 hF
theorem fr_X12_carried_J85 {N : Nat}  {nx25 : (Int × Int) → Option (Int × Sto)} {v1 : Int} {v3 : Int} {t0 : Int} {t1 : Int} {σ : Sto} {res : Int × Sto} (hnx25 : ∀ q, nx25 q = some res → Fr (Wr_X12_carried) σ res.2) (hF : F_X12_carried_J85 N nx25 v1 v3 t0 t1 σ = some res) : Fr (Wr_X12_carried) σ res.2 := by
  unfold F_X12_carried_J85 at hF
  exact hnx25 _ hF
theorem fr_X12_carried_J70 {N : Nat}  {nx25 : (Int × Int) → Option (Int × Sto)} {v1 : Int} {v3 : Int} {v4 : Int} {t0 : Int} {t1 : Int} {t2 : Int} {σ : Sto} {res : Int × Sto} (hnx25 : ∀ q, nx25 q = some res → Fr (Wr_X12_carried) σ res.2) (hF : F_X12_carried_J70 N nx25 v1 v3 v4 t0 t1 t2 σ = some res) : Fr (Wr_X12_carried) σ res.2 := by
  unfold F_X12_carried_J70 at hF
  by_cases c14 : t1 = t2
  · have hF := (if_pos c14).symm.trans hF
    obtain ⟨q15, eq15, hF⟩ := bind_some' hF
    exact fr_X12_carried_J85 hnx25 hF
  · have hF := (if_neg c14).symm.trans hF
    exact fr_X12_carried_J85 hnx25 hF
theorem fr_X12_carried_B25 {N : Nat}  {nx25 : (Int × Int) → Option (Int × Sto)} {v1 : Int} {v2 : Int} {v3 : Int} {σ : Sto} {res : Int × Sto} (hnx25 : ∀ q, nx25 q = some res → Fr (Wr_X12_carried) σ res.2) (hF : F_X12_carried_B25 N nx25 v1 v2 v3 σ = some res) : Fr (Wr_X12_carried) σ res.2 := by
  unfold F_X12_carried_B25 at hF
  obtain ⟨q12, eq12, hF⟩ := bind_some' hF
  by_cases c13 : q12 ≤ v3
  · have hF := (if_pos c13).symm.trans hF
    obtain rfl := Option.some.inj hF
    exact Fr.rf
  · have hF := (if_neg c13).symm.trans hF
    obtain ⟨q16, eq16, hF⟩ := bind_some' hF
    obtain ⟨q17, eq17, hF⟩ := bind_some' hF
    obtain ⟨q18, eq18, hF⟩ := bind_some' hF
    by_cases c19 : v1 = 2
    · have hF := (if_pos c19).symm.trans hF
      exact fr_X12_carried_J70 hnx25 hF
    · have hF := (if_neg c19).symm.trans hF
      exact fr_X12_carried_J70 hnx25 hF
theorem fr_X12_carried {N : Nat} {v1 : Int} {σ : Sto} {res : Int × Sto} (hF : F_X12_carried N v1 σ = some res) : Fr (Wr_X12_carried) σ res.2 := by
  unfold F_X12_carried at hF
  obtain ⟨q1, eq1, hF⟩ := bind_some' hF
  by_cases c2 : q1 = 0
  · have hF := (if_pos c2).symm.trans hF
    obtain rfl := Option.some.inj hF
    exact (Fr_up Fr.rf (by unfold Wr_X12_carried; omega))
  · have hF := (if_neg c2).symm.trans hF
    by_cases c3 : v1 ≤ 1
    · have hF := (if_pos c3).symm.trans hF
      obtain ⟨q4, eq4, hF⟩ := bind_some' hF
      exact Fr_tr (Fr_tr (Fr_up Fr.rf (by unfold Wr_X12_carried; omega)) (Fr_mono (fr_X12_solves eq4) (fun a j h => by unfold Wr_X12_solves at h; unfold Wr_X12_carried; omega))) (loopK_ind (res := res) (P := fun (q : Int × Int) => Fr (Wr_X12_carried) q4.2 res.2) (fun nx q hn hF => fr_X12_carried_B102 hn hF) N _ hF)
    · have hF := (if_neg c3).symm.trans hF
      exact Fr_tr (Fr_up Fr.rf (by unfold Wr_X12_carried; omega)) (loopK_ind (res := res) (P := fun (q : Int × Int) => Fr (Wr_X12_carried) (upI σ 94 2 0) res.2) (fun nx q hn hF => fr_X12_carried_B25 hn hF) N _ hF)
def Wr_X12_route (a : Nat) (j : Int) : Prop := ((102 ≤ a ∧ a ≤ 110)) ∨ (a = 94 ∧ j = 2) ∨ (a = 94 ∧ j = 30)
theorem fr_X12_route_J67 {N : Nat}    {σ : Sto} {res : Int × Sto} (hF : F_X12_route_J67 N   σ = some res) : Fr (Wr_X12_route) σ res.2 := by
  unfold F_X12_route_J67 at hF
  obtain rfl := Option.some.inj hF
  exact Fr.rf
theorem fr_X12_route_J44 {N : Nat}   {v1 : Int} {σ : Sto} {res : Int × Sto} (hF : F_X12_route_J44 N  v1 σ = some res) : Fr (Wr_X12_route) σ res.2 := by
  unfold F_X12_route_J44 at hF
  obtain ⟨q4, eq4, hF⟩ := bind_some' hF
  obtain ⟨q5, eq5, hF⟩ := bind_some' hF
  by_cases c6 : q5 < 0
  · have hF := (if_pos c6).symm.trans hF
    exact Fr_tr (Fr_tr Fr.rf (Fr_mono (fr_X12_laysRoutes eq4) (fun a j h => by unfold Wr_X12_laysRoutes at h; unfold Wr_X12_route; omega))) (fr_X12_route_J67  hF)
  · have hF := (if_neg c6).symm.trans hF
    obtain ⟨b7, hF⟩ := inb_some hF
    by_cases c8 : v1 < (q4.1 109 q5)
    · have hF := (if_pos c8).symm.trans hF
      obtain ⟨b9, hF⟩ := inb_some hF
      obtain rfl := Option.some.inj hF
      exact (Fr_tr Fr.rf (Fr_mono (fr_X12_laysRoutes eq4) (fun a j h => by unfold Wr_X12_laysRoutes at h; unfold Wr_X12_route; omega)))
    · have hF := (if_neg c8).symm.trans hF
      exact Fr_tr (Fr_tr Fr.rf (Fr_mono (fr_X12_laysRoutes eq4) (fun a j h => by unfold Wr_X12_laysRoutes at h; unfold Wr_X12_route; omega))) (fr_X12_route_J67  hF)
theorem fr_X12_route_B24 {N : Nat}  {nx24 : (Int × Sto) → Option (Int × Sto)} {v1 : Int} {v2 : Int} {σ : Sto} {res : Int × Sto} (hnx24 : ∀ q, nx24 q = some res → Fr (Wr_X12_route) q.2 res.2) (hF : F_X12_route_B24 N nx24 v1 v2 σ = some res) : Fr (Wr_X12_route) σ res.2 := by
  unfold F_X12_route_B24 at hF
  by_cases c10 : 144 ≤ v2
  · have hF := (if_pos c10).symm.trans hF
    exact fr_X12_route_J44  hF
  · have hF := (if_neg c10).symm.trans hF
    obtain ⟨b11, hF⟩ := inb_some hF
    exact Fr_tr (Fr_up Fr.rf (by unfold Wr_X12_route; omega)) (hnx24 _ hF)
theorem fr_X12_route {N : Nat} {v1 : Int} {σ : Sto} {res : Int × Sto} (hF : F_X12_route N v1 σ = some res) : Fr (Wr_X12_route) σ res.2 := by
  unfold F_X12_route at hF
  by_cases c1 : 0 ≤ v1
  · have hF := (if_pos c1).symm.trans hF
    obtain ⟨b2, hF⟩ := inb_some hF
    obtain ⟨q3, eq3, hF⟩ := bind_some' hF
    exact Fr_tr (Fr_tr (Fr_up Fr.rf (by unfold Wr_X12_route; omega)) (Fr_mono (fr_X12_laysAll eq3) (fun a j h => by unfold Wr_X12_laysAll at h; unfold Wr_X12_route; omega))) (loopK_ind (res := res) (P := fun (q : Int × Sto) => Fr (Wr_X12_route) q.2 res.2) (fun nx q hn hF => fr_X12_route_B24 hn hF) N _ hF)
  · have hF := (if_neg c1).symm.trans hF
    obtain rfl := Option.some.inj hF
    exact (Fr_up Fr.rf (by unfold Wr_X12_route; omega))
def Wr_X12_steps (a : Nat) (j : Int) : Prop := (a = 94 ∧ j = 2)
theorem fr_X12_steps_J129 {N : Nat}  {nx31 : (Int × Int) → Option (Int × Sto)} {v2 : Int} {v3 : Int} {v5 : Int} {v6 : Int} {σ : Sto} {res : Int × Sto} (hnx31 : ∀ q, nx31 q = some res → Fr (Wr_X12_steps) σ res.2) (hF : F_X12_steps_J129 N nx31 v2 v3 v5 v6 σ = some res) : Fr (Wr_X12_steps) σ res.2 := by
  unfold F_X12_steps_J129 at hF
  exact hnx31 _ hF
theorem fr_X12_steps_J123 {N : Nat}  {nx31 : (Int × Int) → Option (Int × Sto)} {nx57 : (Int × Int) → Option (Int × Sto)} {v2 : Int} {v3 : Int} {v4 : Int} {v5 : Int} {v6 : Int} {v7 : Int} {σ : Sto} {res : Int × Sto} (hnx31 : ∀ q, nx31 q = some res → Fr (Wr_X12_steps) σ res.2) (hnx57 : ∀ q, nx57 q = some res → Fr (Wr_X12_steps) σ res.2) (hF : F_X12_steps_J123 N nx31 nx57 v2 v3 v4 v5 v6 v7 σ = some res) : Fr (Wr_X12_steps) σ res.2 := by
  unfold F_X12_steps_J123 at hF
  exact hnx57 _ hF
theorem fr_X12_steps_J114 {N : Nat}  {nx31 : (Int × Int) → Option (Int × Sto)} {nx57 : (Int × Int) → Option (Int × Sto)} {nx72 : (Int × Int) → Option (Int × Sto)} {v2 : Int} {v3 : Int} {v4 : Int} {v5 : Int} {v7 : Int} {v8 : Int} {t0 : Int} {t1 : Int} {σ : Sto} {res : Int × Sto} (hnx31 : ∀ q, nx31 q = some res → Fr (Wr_X12_steps) σ res.2) (hnx57 : ∀ q, nx57 q = some res → Fr (Wr_X12_steps) σ res.2) (hnx72 : ∀ q, nx72 q = some res → Fr (Wr_X12_steps) σ res.2) (hF : F_X12_steps_J114 N nx31 nx57 nx72 v2 v3 v4 v5 v7 v8 t0 t1 σ = some res) : Fr (Wr_X12_steps) σ res.2 := by
  unfold F_X12_steps_J114 at hF
  exact hnx72 _ hF
theorem fr_X12_steps_J113 {N : Nat}  {nx31 : (Int × Int) → Option (Int × Sto)} {nx57 : (Int × Int) → Option (Int × Sto)} {nx72 : (Int × Int) → Option (Int × Sto)} {v2 : Int} {v3 : Int} {v4 : Int} {v5 : Int} {v7 : Int} {v8 : Int} {t0 : Int} {σ : Sto} {res : Int × Sto} (hnx31 : ∀ q, nx31 q = some res → Fr (Wr_X12_steps) σ res.2) (hnx57 : ∀ q, nx57 q = some res → Fr (Wr_X12_steps) σ res.2) (hnx72 : ∀ q, nx72 q = some res → Fr (Wr_X12_steps) σ res.2) (hF : F_X12_steps_J113 N nx31 nx57 nx72 v2 v3 v4 v5 v7 v8 t0 σ = some res) : Fr (Wr_X12_steps) σ res.2 := by
  unfold F_X12_steps_J113 at hF
  exact fr_X12_steps_J114 hnx31 hnx57 hnx72 hF
theorem fr_X12_steps_B72 {N : Nat}  {nx31 : (Int × Int) → Option (Int × Sto)} {nx57 : (Int × Int) → Option (Int × Sto)} {nx72 : (Int × Int) → Option (Int × Sto)} {v2 : Int} {v3 : Int} {v4 : Int} {v5 : Int} {v7 : Int} {v6 : Int} {v8 : Int} {σ : Sto} {res : Int × Sto} (hnx31 : ∀ q, nx31 q = some res → Fr (Wr_X12_steps) σ res.2) (hnx57 : ∀ q, nx57 q = some res → Fr (Wr_X12_steps) σ res.2) (hnx72 : ∀ q, nx72 q = some res → Fr (Wr_X12_steps) σ res.2) (hF : F_X12_steps_B72 N nx31 nx57 nx72 v2 v3 v4 v5 v7 v6 v8 σ = some res) : Fr (Wr_X12_steps) σ res.2 := by
  unfold F_X12_steps_B72 at hF
  by_cases c8 : (σ.1 94 11) ≤ v8
  · have hF := (if_pos c8).symm.trans hF
    exact fr_X12_steps_J123 hnx31 hnx57 hF
  · have hF := (if_neg c8).symm.trans hF
    by_cases c9 : (jand (jshr v4 v7) 1) = 1
    · have hF := (if_pos c9).symm.trans hF
      obtain ⟨q10, eq10, hF⟩ := bind_some' hF
      by_cases c11 : q10 ≤ 0
      · have hF := (if_pos c11).symm.trans hF
        exact fr_X12_steps_J113 hnx31 hnx57 hnx72 hF
      · have hF := (if_neg c11).symm.trans hF
        exact fr_X12_steps_J114 hnx31 hnx57 hnx72 hF
    · have hF := (if_neg c9).symm.trans hF
      exact fr_X12_steps_J113 hnx31 hnx57 hnx72 hF
theorem fr_X12_steps_B57 {N : Nat}  {nx31 : (Int × Int) → Option (Int × Sto)} {nx57 : (Int × Int) → Option (Int × Sto)} {v2 : Int} {v3 : Int} {v4 : Int} {v5 : Int} {v6 : Int} {v7 : Int} {σ : Sto} {res : Int × Sto} (hnx31 : ∀ q, nx31 q = some res → Fr (Wr_X12_steps) σ res.2) (hnx57 : ∀ q, nx57 q = some res → Fr (Wr_X12_steps) σ res.2) (hF : F_X12_steps_B57 N nx31 nx57 v2 v3 v4 v5 v6 v7 σ = some res) : Fr (Wr_X12_steps) σ res.2 := by
  unfold F_X12_steps_B57 at hF
  by_cases c7 : (σ.1 94 11) ≤ v7
  · have hF := (if_pos c7).symm.trans hF
    exact fr_X12_steps_J129 hnx31 hF
  · have hF := (if_neg c7).symm.trans hF
    exact (loopK_ind (res := res) (P := fun (q : Int × Int) => Fr (Wr_X12_steps) σ res.2) (fun nx q hn hF => fr_X12_steps_B72 hnx31 hnx57 hn hF) N _ hF)
theorem fr_X12_steps_B31 {N : Nat}  {nx31 : (Int × Int) → Option (Int × Sto)} {v2 : Int} {v3 : Int} {v4 : Int} {v5 : Int} {σ : Sto} {res : Int × Sto} (hnx31 : ∀ q, nx31 q = some res → Fr (Wr_X12_steps) σ res.2) (hF : F_X12_steps_B31 N nx31 v2 v3 v4 v5 σ = some res) : Fr (Wr_X12_steps) σ res.2 := by
  unfold F_X12_steps_B31 at hF
  by_cases c5 : 8 ≤ v5
  · have hF := (if_pos c5).symm.trans hF
    obtain rfl := Option.some.inj hF
    exact Fr.rf
  · have hF := (if_neg c5).symm.trans hF
    by_cases c6 : (jand (jshr v4 v2) 1) = 1
    · have hF := (if_pos c6).symm.trans hF
      obtain rfl := Option.some.inj hF
      exact Fr.rf
    · have hF := (if_neg c6).symm.trans hF
      exact (loopK_ind (res := res) (P := fun (q : Int × Int) => Fr (Wr_X12_steps) σ res.2) (fun nx q hn hF => fr_X12_steps_B57 hnx31 hn hF) N _ hF)
theorem fr_X12_steps {N : Nat} {v1 : Int} {v2 : Int} {v3 : Int} {σ : Sto} {res : Int × Sto} (hF : F_X12_steps N v1 v2 v3 σ = some res) : Fr (Wr_X12_steps) σ res.2 := by
  unfold F_X12_steps at hF
  obtain ⟨q1, eq1, hF⟩ := bind_some' hF
  by_cases c2 : q1 = 0
  · have hF := (if_pos c2).symm.trans hF
    obtain rfl := Option.some.inj hF
    exact (Fr_up Fr.rf (by unfold Wr_X12_steps; omega))
  · have hF := (if_neg c2).symm.trans hF
    obtain ⟨q3, eq3, hF⟩ := bind_some' hF
    by_cases c4 : q3 = 0
    · have hF := (if_pos c4).symm.trans hF
      obtain rfl := Option.some.inj hF
      exact (Fr_up Fr.rf (by unfold Wr_X12_steps; omega))
    · have hF := (if_neg c4).symm.trans hF
      exact Fr_tr (Fr_up Fr.rf (by unfold Wr_X12_steps; omega)) (loopK_ind (res := res) (P := fun (q : Int × Int) => Fr (Wr_X12_steps) (upI σ 94 2 0) res.2) (fun nx q hn hF => fr_X12_steps_B31 hn hF) N _ hF)
def Wr_X12_byGate (a : Nat) (j : Int) : Prop := ((102 ≤ a ∧ a ≤ 110)) ∨ (a = 94 ∧ j = 2) ∨ (a = 94 ∧ j = 30) ∨ (a = 94 ∧ j = 37)
theorem fr_X12_byGate {N : Nat} {v1 : Int} {σ : Sto} {res : Int × Sto} (hF : F_X12_byGate N v1 σ = some res) : Fr (Wr_X12_byGate) σ res.2 := by
  unfold F_X12_byGate at hF
  obtain ⟨q1, eq1, hF⟩ := bind_some' hF
  by_cases c2 : q1 = 0
  · have hF := (if_pos c2).symm.trans hF
    obtain rfl := Option.some.inj hF
    exact (Fr_up Fr.rf (by unfold Wr_X12_byGate; omega))
  · have hF := (if_neg c2).symm.trans hF
    obtain ⟨q3, eq3, hF⟩ := bind_some' hF
    obtain rfl := Option.some.inj hF
    exact (Fr_tr (Fr_up Fr.rf (by unfold Wr_X12_byGate; omega)) (Fr_mono (fr_X12_byGateOf eq3) (fun a j h => by unfold Wr_X12_byGateOf at h; unfold Wr_X12_byGate; omega)))
def Wr_X12_gateFor (a : Nat) (j : Int) : Prop := ((102 ≤ a ∧ a ≤ 110)) ∨ (a = 94 ∧ j = 2) ∨ (a = 94 ∧ j = 30) ∨ (a = 94 ∧ j = 37)
theorem fr_X12_gateFor_B21 {N : Nat}  {nx21 : (Int × Sto) → Option (Int × Sto)} {v1 : Int} {v2 : Int} {σ : Sto} {res : Int × Sto} (hnx21 : ∀ q, nx21 q = some res → Fr (Wr_X12_gateFor) q.2 res.2) (hF : F_X12_gateFor_B21 N nx21 v1 v2 σ = some res) : Fr (Wr_X12_gateFor) σ res.2 := by
  unfold F_X12_gateFor_B21 at hF
  by_cases c3 : v2 ≤ 0
  · have hF := (if_pos c3).symm.trans hF
    obtain rfl := Option.some.inj hF
    exact Fr.rf
  · have hF := (if_neg c3).symm.trans hF
    obtain ⟨q4, eq4, hF⟩ := bind_some' hF
    by_cases c5 : q4.1 < v1
    · have hF := (if_pos c5).symm.trans hF
      exact Fr_tr (Fr_tr Fr.rf (Fr_mono (fr_X12_byGateOf eq4) (fun a j h => by unfold Wr_X12_byGateOf at h; unfold Wr_X12_gateFor; omega))) (hnx21 _ hF)
    · have hF := (if_neg c5).symm.trans hF
      obtain rfl := Option.some.inj hF
      exact (Fr_tr Fr.rf (Fr_mono (fr_X12_byGateOf eq4) (fun a j h => by unfold Wr_X12_byGateOf at h; unfold Wr_X12_gateFor; omega)))
theorem fr_X12_gateFor {N : Nat} {v1 : Int} {σ : Sto} {res : Int × Sto} (hF : F_X12_gateFor N v1 σ = some res) : Fr (Wr_X12_gateFor) σ res.2 := by
  unfold F_X12_gateFor at hF
  obtain ⟨q1, eq1, hF⟩ := bind_some' hF
  by_cases c2 : q1 = 0
  · have hF := (if_pos c2).symm.trans hF
    obtain rfl := Option.some.inj hF
    exact (Fr_up Fr.rf (by unfold Wr_X12_gateFor; omega))
  · have hF := (if_neg c2).symm.trans hF
    exact Fr_tr (Fr_up Fr.rf (by unfold Wr_X12_gateFor; omega)) (loopK_ind (res := res) (P := fun (q : Int × Sto) => Fr (Wr_X12_gateFor) q.2 res.2) (fun nx q hn hF => fr_X12_gateFor_B21 hn hF) N _ hF)
def Wr_X12_days (a : Nat) (j : Int) : Prop := ((102 ≤ a ∧ a ≤ 104)) ∨ (a = 94 ∧ j = 2) ∨ (a = 94 ∧ j = 30)
theorem fr_X12_days_J129 {N : Nat}  {nx63 : (Int × Int) → Option (Int × Sto)} {v1 : Int} {v2 : Int} {v3 : Int} {v4 : Int} {v5 : Int} {σ : Sto} {res : Int × Sto} (hnx63 : ∀ q, nx63 q = some res → Fr (Wr_X12_days) σ res.2) (hF : F_X12_days_J129 N nx63 v1 v2 v3 v4 v5 σ = some res) : Fr (Wr_X12_days) σ res.2 := by
  unfold F_X12_days_J129 at hF
  exact hnx63 _ hF
theorem fr_X12_days_B63 {N : Nat}  {nx63 : (Int × Int) → Option (Int × Sto)} {v1 : Int} {v2 : Int} {v3 : Int} {v4 : Int} {v5 : Int} {σ : Sto} {res : Int × Sto} (hnx63 : ∀ q, nx63 q = some res → Fr (Wr_X12_days) σ res.2) (hF : F_X12_days_B63 N nx63 v1 v2 v3 v4 v5 σ = some res) : Fr (Wr_X12_days) σ res.2 := by
  unfold F_X12_days_B63 at hF
  by_cases c9 : (σ.1 94 30) ≤ v5
  · have hF := (if_pos c9).symm.trans hF
    obtain rfl := Option.some.inj hF
    exact Fr.rf
  · have hF := (if_neg c9).symm.trans hF
    obtain ⟨b10, hF⟩ := inb_some hF
    by_cases c11 : (jand (jshr (σ.1 104 (ja (jm 8 v5) v1)) v2) 1) = 0
    · have hF := (if_pos c11).symm.trans hF
      exact fr_X12_days_J129 hnx63 hF
    · have hF := (if_neg c11).symm.trans hF
      by_cases c12 : v3 = 1
      · have hF := (if_pos c12).symm.trans hF
        obtain ⟨b15, hF⟩ := inb_some hF
        exact fr_X12_days_J129 hnx63 hF
      · have hF := (if_neg c12).symm.trans hF
        by_cases c13 : 0 ≤ v4
        · have hF := (if_pos c13).symm.trans hF
          exact fr_X12_days_J129 hnx63 hF
        · have hF := (if_neg c13).symm.trans hF
          obtain ⟨b14, hF⟩ := inb_some hF
          exact fr_X12_days_J129 hnx63 hF
theorem fr_X12_days {N : Nat} {v1 : Int} {v2 : Int} {v3 : Int} {σ : Sto} {res : Int × Sto} (hF : F_X12_days N v1 v2 v3 σ = some res) : Fr (Wr_X12_days) σ res.2 := by
  unfold F_X12_days at hF
  obtain ⟨q1, eq1, hF⟩ := bind_some' hF
  by_cases c2 : q1 = 0
  · have hF := (if_pos c2).symm.trans hF
    obtain rfl := Option.some.inj hF
    exact (Fr_up Fr.rf (by unfold Wr_X12_days; omega))
  · have hF := (if_neg c2).symm.trans hF
    by_cases c3 : v1 = v2
    · have hF := (if_pos c3).symm.trans hF
      obtain rfl := Option.some.inj hF
      exact (Fr_up Fr.rf (by unfold Wr_X12_days; omega))
    · have hF := (if_neg c3).symm.trans hF
      obtain ⟨q4, eq4, hF⟩ := bind_some' hF
      by_cases c5 : q4 = 0
      · have hF := (if_pos c5).symm.trans hF
        obtain rfl := Option.some.inj hF
        exact (Fr_up Fr.rf (by unfold Wr_X12_days; omega))
      · have hF := (if_neg c5).symm.trans hF
        obtain ⟨b6, hF⟩ := inb_some hF
        obtain ⟨q7, eq7, hF⟩ := bind_some' hF
        by_cases c8 : v3 = 2
        · have hF := (if_pos c8).symm.trans hF
          obtain ⟨q16, eq16, hF⟩ := bind_some' hF
          obtain rfl := Option.some.inj hF
          exact (Fr_tr (Fr_up Fr.rf (by unfold Wr_X12_days; omega)) (Fr_mono (fr_X12_laysStretches eq7) (fun a j h => by unfold Wr_X12_laysStretches at h; unfold Wr_X12_days; omega)))
        · have hF := (if_neg c8).symm.trans hF
          exact Fr_tr (Fr_tr (Fr_up Fr.rf (by unfold Wr_X12_days; omega)) (Fr_mono (fr_X12_laysStretches eq7) (fun a j h => by unfold Wr_X12_laysStretches at h; unfold Wr_X12_days; omega))) (loopK_ind (res := res) (P := fun (q : Int × Int) => Fr (Wr_X12_days) q7 res.2) (fun nx q hn hF => fr_X12_days_B63 hn hF) N _ hF)
def Wr_X12_ifFirst (a : Nat) (j : Int) : Prop := ((102 ≤ a ∧ a ≤ 110)) ∨ (a = 94 ∧ j = 2) ∨ (a = 94 ∧ j = 30) ∨ (a = 94 ∧ j = 31) ∨ (a = 94 ∧ j = 32) ∨ (a = 94 ∧ j = 37)
theorem fr_X12_ifFirst_J87 {N : Nat}   {v1 : Int} {v2 : Int} {σ : Sto} {res : Int × Sto} (hF : F_X12_ifFirst_J87 N  v1 v2 σ = some res) : Fr (Wr_X12_ifFirst) σ res.2 := by
  unfold F_X12_ifFirst_J87 at hF
  obtain ⟨b6, hF⟩ := inb_some hF
  obtain ⟨q7, eq7, hF⟩ := bind_some' hF
  obtain ⟨q8, eq8, hF⟩ := bind_some' hF
  obtain rfl := Option.some.inj hF
  exact (Fr_tr (Fr_up (Fr_tr (Fr_up (Fr_up Fr.rf (by unfold Wr_X12_ifFirst; omega)) (by unfold Wr_X12_ifFirst; omega)) (Fr_mono (fr_X12_laysAll eq7) (fun a j h => by unfold Wr_X12_laysAll at h; unfold Wr_X12_ifFirst; omega))) (by unfold Wr_X12_ifFirst; omega)) (Fr_mono (fr_X12_relieves eq8) (fun a j h => by unfold Wr_X12_relieves at h; unfold Wr_X12_ifFirst; omega)))
theorem fr_X12_ifFirst_J81 {N : Nat}  {nx30 : (Int) → Option (Int × Sto)} {v1 : Int} {v2 : Int} {v3 : Int} {σ : Sto} {res : Int × Sto} (hnx30 : ∀ q, nx30 q = some res → Fr (Wr_X12_ifFirst) σ res.2) (hF : F_X12_ifFirst_J81 N nx30 v1 v2 v3 σ = some res) : Fr (Wr_X12_ifFirst) σ res.2 := by
  unfold F_X12_ifFirst_J81 at hF
  exact hnx30 _ hF
theorem fr_X12_ifFirst_B30 {N : Nat}  {nx30 : (Int) → Option (Int × Sto)} {v1 : Int} {v2 : Int} {v3 : Int} {σ : Sto} {res : Int × Sto} (hnx30 : ∀ q, nx30 q = some res → Fr (Wr_X12_ifFirst) σ res.2) (hF : F_X12_ifFirst_B30 N nx30 v1 v2 v3 σ = some res) : Fr (Wr_X12_ifFirst) σ res.2 := by
  unfold F_X12_ifFirst_B30 at hF
  by_cases c9 : (σ.1 94 14) ≤ v3
  · have hF := (if_pos c9).symm.trans hF
    exact fr_X12_ifFirst_J87  hF
  · have hF := (if_neg c9).symm.trans hF
    by_cases c10 : v3 = v1
    · have hF := (if_pos c10).symm.trans hF
      exact fr_X12_ifFirst_J81 hnx30 hF
    · have hF := (if_neg c10).symm.trans hF
      obtain ⟨q11, eq11, hF⟩ := bind_some' hF
      obtain ⟨q12, eq12, hF⟩ := bind_some' hF
      by_cases c13 : q11 = q12
      · have hF := (if_pos c13).symm.trans hF
        obtain ⟨q14, eq14, hF⟩ := bind_some' hF
        obtain ⟨q15, eq15, hF⟩ := bind_some' hF
        by_cases c16 : q15 < q14
        · have hF := (if_pos c16).symm.trans hF
          exact fr_X12_ifFirst_J81 hnx30 hF
        · have hF := (if_neg c16).symm.trans hF
          obtain ⟨q17, eq17, hF⟩ := bind_some' hF
          by_cases c18 : q17 < v2
          · have hF := (if_pos c18).symm.trans hF
            exact fr_X12_ifFirst_J81 hnx30 hF
          · have hF := (if_neg c18).symm.trans hF
            obtain rfl := Option.some.inj hF
            exact Fr.rf
      · have hF := (if_neg c13).symm.trans hF
        exact fr_X12_ifFirst_J81 hnx30 hF
theorem fr_X12_ifFirst {N : Nat} {v1 : Int} {v2 : Int} {σ : Sto} {res : Int × Sto} (hF : F_X12_ifFirst N v1 v2 σ = some res) : Fr (Wr_X12_ifFirst) σ res.2 := by
  unfold F_X12_ifFirst at hF
  obtain ⟨q1, eq1, hF⟩ := bind_some' hF
  by_cases c2 : q1 = 0
  · have hF := (if_pos c2).symm.trans hF
    obtain rfl := Option.some.inj hF
    exact (Fr_up Fr.rf (by unfold Wr_X12_ifFirst; omega))
  · have hF := (if_neg c2).symm.trans hF
    obtain ⟨q3, eq3, hF⟩ := bind_some' hF
    obtain ⟨q4, eq4, hF⟩ := bind_some' hF
    by_cases c5 : q4 = 0
    · have hF := (if_pos c5).symm.trans hF
      obtain rfl := Option.some.inj hF
      exact (Fr_up Fr.rf (by unfold Wr_X12_ifFirst; omega))
    · have hF := (if_neg c5).symm.trans hF
      exact Fr_tr (Fr_up Fr.rf (by unfold Wr_X12_ifFirst; omega)) (loopK_ind (res := res) (P := fun (q : Int) => Fr (Wr_X12_ifFirst) (upI σ 94 2 0) res.2) (fun nx q hn hF => fr_X12_ifFirst_B30 hn hF) N _ hF)
def Wr_X12_dearest (a : Nat) (j : Int) : Prop := ((102 ≤ a ∧ a ≤ 110)) ∨ (a = 94 ∧ j = 2) ∨ (a = 94 ∧ j = 30) ∨ (a = 94 ∧ j = 37)
theorem fr_X12_dearest_J72 {N : Nat}   {v1 : Int} {σ : Sto} {res : Int × Sto} (hF : F_X12_dearest_J72 N  v1 σ = some res) : Fr (Wr_X12_dearest) σ res.2 := by
  unfold F_X12_dearest_J72 at hF
  by_cases c2 : 0 ≤ v1
  · have hF := (if_pos c2).symm.trans hF
    obtain rfl := Option.some.inj hF
    exact Fr.rf
  · have hF := (if_neg c2).symm.trans hF
    obtain rfl := Option.some.inj hF
    exact Fr.rf
theorem fr_X12_dearest_J66 {N : Nat}  {nx14 : (Int × Int) → Option (Int × Sto)} {v1 : Int} {v2 : Int} {σ : Sto} {res : Int × Sto} (hnx14 : ∀ q, nx14 q = some res → Fr (Wr_X12_dearest) σ res.2) (hF : F_X12_dearest_J66 N nx14 v1 v2 σ = some res) : Fr (Wr_X12_dearest) σ res.2 := by
  unfold F_X12_dearest_J66 at hF
  exact hnx14 _ hF
theorem fr_X12_dearest_J64 {N : Nat}  {nx14 : (Int × Int) → Option (Int × Sto)} {v2 : Int} {σ : Sto} {res : Int × Sto} (hnx14 : ∀ q, nx14 q = some res → Fr (Wr_X12_dearest) σ res.2) (hF : F_X12_dearest_J64 N nx14 v2 σ = some res) : Fr (Wr_X12_dearest) σ res.2 := by
  unfold F_X12_dearest_J64 at hF
  exact fr_X12_dearest_J66 hnx14 hF
theorem fr_X12_dearest_B14 {N : Nat}  {nx14 : (Int × Int) → Option (Int × Sto)} {v1 : Int} {v2 : Int} {σ : Sto} {res : Int × Sto} (hnx14 : ∀ q, nx14 q = some res → Fr (Wr_X12_dearest) σ res.2) (hF : F_X12_dearest_B14 N nx14 v1 v2 σ = some res) : Fr (Wr_X12_dearest) σ res.2 := by
  unfold F_X12_dearest_B14 at hF
  by_cases c3 : 144 ≤ v2
  · have hF := (if_pos c3).symm.trans hF
    exact fr_X12_dearest_J72  hF
  · have hF := (if_neg c3).symm.trans hF
    obtain ⟨b4, hF⟩ := inb_some hF
    by_cases c5 : (σ.1 107 v2) = 0
    · have hF := (if_pos c5).symm.trans hF
      exact fr_X12_dearest_J66 hnx14 hF
    · have hF := (if_neg c5).symm.trans hF
      by_cases c6 : v1 < 0
      · have hF := (if_pos c6).symm.trans hF
        exact fr_X12_dearest_J64 hnx14 hF
      · have hF := (if_neg c6).symm.trans hF
        obtain ⟨q7, eq7, hF⟩ := bind_some' hF
        obtain ⟨q8, eq8, hF⟩ := bind_some' hF
        by_cases c9 : q7 ≤ q8
        · have hF := (if_pos c9).symm.trans hF
          exact fr_X12_dearest_J66 hnx14 hF
        · have hF := (if_neg c9).symm.trans hF
          exact fr_X12_dearest_J64 hnx14 hF
theorem fr_X12_dearest {N : Nat}  {σ : Sto} {res : Int × Sto} (hF : F_X12_dearest N  σ = some res) : Fr (Wr_X12_dearest) σ res.2 := by
  unfold F_X12_dearest at hF
  obtain ⟨q1, eq1, hF⟩ := bind_some' hF
  exact Fr_tr (Fr_tr (Fr_up Fr.rf (by unfold Wr_X12_dearest; omega)) (Fr_mono (fr_X12_solves eq1) (fun a j h => by unfold Wr_X12_solves at h; unfold Wr_X12_dearest; omega))) (loopK_ind (res := res) (P := fun (q : Int × Int) => Fr (Wr_X12_dearest) q1.2 res.2) (fun nx q hn hF => fr_X12_dearest_B14 hn hF) N _ hF)
def Wr_X12_draw (a : Nat) (j : Int) : Prop := (a = 94 ∧ j = 47)
theorem fr_X12_draw {N : Nat} {v1 : Int} {σ : Sto} {res : Int × Sto} (hF : F_X12_draw N v1 σ = some res) : Fr (Wr_X12_draw) σ res.2 := by
  unfold F_X12_draw at hF
  obtain ⟨z1, hF⟩ := grd_some hF
  obtain rfl := Option.some.inj hF
  exact (Fr_uf Fr.rf (by unfold Wr_X12_draw; omega))
def Wr_X12_chance (a : Nat) (j : Int) : Prop := ((101 ≤ a ∧ a ≤ 110)) ∨ (a = 94 ∧ j = 2) ∨ (a = 94 ∧ j = 24) ∨ (a = 94 ∧ j = 30) ∨ (a = 94 ∧ j = 37) ∨ (a = 94 ∧ j = 47)
theorem fr_X12_chance_J212 {N : Nat}   {t0 : Int} {σ : Sto} {res : Int × Sto} (hF : F_X12_chance_J212 N  t0 σ = some res) : Fr (Wr_X12_chance) σ res.2 := by
  unfold F_X12_chance_J212 at hF
  obtain rfl := Option.some.inj hF
  exact (Fr_up Fr.rf (by unfold Wr_X12_chance; omega))
theorem fr_X12_chance_J189 {N : Nat}   {v3 : Int} {v4 : Int} {v5 : Int} {σ : Sto} {res : Int × Sto} (hF : F_X12_chance_J189 N  v3 v4 v5 σ = some res) : Fr (Wr_X12_chance) σ res.2 := by
  unfold F_X12_chance_J189 at hF
  by_cases c10 : v3 = 0
  · have hF := (if_pos c10).symm.trans hF
    exact fr_X12_chance_J212  hF
  · have hF := (if_neg c10).symm.trans hF
    by_cases c11 : v3 = 1
    · have hF := (if_pos c11).symm.trans hF
      exact fr_X12_chance_J212  hF
    · have hF := (if_neg c11).symm.trans hF
      obtain ⟨q12, eq12, hF⟩ := bind_some' hF
      exact Fr_tr (Fr_tr Fr.rf (Fr_mono (fr_X12_solves eq12) (fun a j h => by unfold Wr_X12_solves at h; unfold Wr_X12_chance; omega))) (fr_X12_chance_J212  hF)
theorem fr_X12_chance_J183 {N : Nat}  {nx89 : (Int × Int × Int × Sto) → Option (Int × Sto)} {v2 : Int} {v3 : Int} {v4 : Int} {v5 : Int} {v6 : Int} {σ : Sto} {res : Int × Sto} (hnx89 : ∀ q, nx89 q = some res → Fr (Wr_X12_chance) q.2.2.2 res.2) (hF : F_X12_chance_J183 N nx89 v2 v3 v4 v5 v6 σ = some res) : Fr (Wr_X12_chance) σ res.2 := by
  unfold F_X12_chance_J183 at hF
  exact Fr_tr Fr.rf (hnx89 _ hF)
theorem fr_X12_chance_B89 {N : Nat}  {nx89 : (Int × Int × Int × Sto) → Option (Int × Sto)} {v2 : Int} {v3 : Int} {v4 : Int} {v5 : Int} {v6 : Int} {σ : Sto} {res : Int × Sto} (hnx89 : ∀ q, nx89 q = some res → Fr (Wr_X12_chance) q.2.2.2 res.2) (hF : F_X12_chance_B89 N nx89 v2 v3 v4 v5 v6 σ = some res) : Fr (Wr_X12_chance) σ res.2 := by
  unfold F_X12_chance_B89 at hF
  by_cases c13 : v2 ≤ v6
  · have hF := (if_pos c13).symm.trans hF
    exact fr_X12_chance_J189  hF
  · have hF := (if_neg c13).symm.trans hF
    obtain ⟨q14, eq14, hF⟩ := bind_some' hF
    obtain ⟨q15, eq15, hF⟩ := bind_some' hF
    obtain ⟨q16, eq16, hF⟩ := bind_some' hF
    obtain ⟨q17, eq17, hF⟩ := bind_some' hF
    by_cases c18 : q17 = 0
    · have hF := (if_pos c18).symm.trans hF
      exact Fr_tr (Fr_tr (Fr_tr (Fr_tr Fr.rf (Fr_mono (fr_X12_draw eq14) (fun a j h => by unfold Wr_X12_draw at h; unfold Wr_X12_chance; omega))) (Fr_mono (fr_X12_draw eq15) (fun a j h => by unfold Wr_X12_draw at h; unfold Wr_X12_chance; omega))) (Fr_mono (fr_X12_draw eq16) (fun a j h => by unfold Wr_X12_draw at h; unfold Wr_X12_chance; omega))) (fr_X12_chance_J183 hnx89 hF)
    · have hF := (if_neg c18).symm.trans hF
      obtain ⟨q19, eq19, hF⟩ := bind_some' hF
      by_cases c20 : q19 = 30
      · have hF := (if_pos c20).symm.trans hF
        exact Fr_tr (Fr_tr (Fr_tr (Fr_tr Fr.rf (Fr_mono (fr_X12_draw eq14) (fun a j h => by unfold Wr_X12_draw at h; unfold Wr_X12_chance; omega))) (Fr_mono (fr_X12_draw eq15) (fun a j h => by unfold Wr_X12_draw at h; unfold Wr_X12_chance; omega))) (Fr_mono (fr_X12_draw eq16) (fun a j h => by unfold Wr_X12_draw at h; unfold Wr_X12_chance; omega))) (fr_X12_chance_J183 hnx89 hF)
      · have hF := (if_neg c20).symm.trans hF
        obtain ⟨q21, eq21, hF⟩ := bind_some' hF
        by_cases c22 : q21 = 0
        · have hF := (if_pos c22).symm.trans hF
          exact Fr_tr (Fr_tr (Fr_tr (Fr_tr Fr.rf (Fr_mono (fr_X12_draw eq14) (fun a j h => by unfold Wr_X12_draw at h; unfold Wr_X12_chance; omega))) (Fr_mono (fr_X12_draw eq15) (fun a j h => by unfold Wr_X12_draw at h; unfold Wr_X12_chance; omega))) (Fr_mono (fr_X12_draw eq16) (fun a j h => by unfold Wr_X12_draw at h; unfold Wr_X12_chance; omega))) (fr_X12_chance_J183 hnx89 hF)
        · have hF := (if_neg c22).symm.trans hF
          obtain ⟨q23, eq23, hF⟩ := bind_some' hF
          exact Fr_tr (Fr_tr (Fr_tr (Fr_tr (Fr_tr Fr.rf (Fr_mono (fr_X12_draw eq14) (fun a j h => by unfold Wr_X12_draw at h; unfold Wr_X12_chance; omega))) (Fr_mono (fr_X12_draw eq15) (fun a j h => by unfold Wr_X12_draw at h; unfold Wr_X12_chance; omega))) (Fr_mono (fr_X12_draw eq16) (fun a j h => by unfold Wr_X12_draw at h; unfold Wr_X12_chance; omega))) (Fr_mono (fr_X12_claims eq23) (fun a j h => by unfold Wr_X12_claims at h; unfold Wr_X12_chance; omega))) (fr_X12_chance_J183 hnx89 hF)
theorem fr_X12_chance_J56 {N : Nat}   {v2 : Int} {v3 : Int} {t1 : Int} {σ : Sto} {res : Int × Sto} (hF : F_X12_chance_J56 N  v2 v3 t1 σ = some res) : Fr (Wr_X12_chance) σ res.2 := by
  unfold F_X12_chance_J56 at hF
  obtain ⟨q7, eq7, hF⟩ := bind_some' hF
  obtain ⟨b8, hF⟩ := inb_some hF
  obtain ⟨q9, eq9, hF⟩ := bind_some' hF
  exact Fr_tr (Fr_tr (Fr_up (Fr_tr (Fr_uf Fr.rf (by unfold Wr_X12_chance; omega)) (Fr_mono (fr_X12_copyBank eq7) (fun a j h => by unfold Wr_X12_copyBank at h; unfold Wr_X12_chance; omega))) (by unfold Wr_X12_chance; omega)) (Fr_mono (fr_X12_laysStretches eq9) (fun a j h => by unfold Wr_X12_laysStretches at h; unfold Wr_X12_chance; omega))) (loopK_ind (res := res) (P := fun (q : Int × Int × Int × Sto) => Fr (Wr_X12_chance) q.2.2.2 res.2) (fun nx q hn hF => fr_X12_chance_B89 hn hF) N _ hF)
theorem fr_X12_chance {N : Nat} {v1 : Int} {v2 : Int} {v3 : Int} {σ : Sto} {res : Int × Sto} (hF : F_X12_chance N v1 v2 v3 σ = some res) : Fr (Wr_X12_chance) σ res.2 := by
  unfold F_X12_chance at hF
  by_cases c1 : v1 < (-1)
  · have hF := (if_pos c1).symm.trans hF
    obtain rfl := Option.some.inj hF
    exact (Fr_up Fr.rf (by unfold Wr_X12_chance; omega))
  · have hF := (if_neg c1).symm.trans hF
    obtain ⟨q2, eq2, hF⟩ := bind_some' hF
    by_cases c3 : q2 = 0
    · have hF := (if_pos c3).symm.trans hF
      obtain rfl := Option.some.inj hF
      exact (Fr_up Fr.rf (by unfold Wr_X12_chance; omega))
    · have hF := (if_neg c3).symm.trans hF
      obtain ⟨q4, eq4, hF⟩ := bind_some' hF
      by_cases c5 : q4 = 0
      · have hF := (if_pos c5).symm.trans hF
        obtain rfl := Option.some.inj hF
        exact (Fr_up Fr.rf (by unfold Wr_X12_chance; omega))
      · have hF := (if_neg c5).symm.trans hF
        by_cases c6 : 1 ≤ ((upI σ 94 2 0).1 94 14)
        · have hF := (if_pos c6).symm.trans hF
          by_cases c24 : 0 ≤ v1
          · have hF := (if_pos c24).symm.trans hF
            exact Fr_tr (Fr_up Fr.rf (by unfold Wr_X12_chance; omega)) (fr_X12_chance_J56  hF)
          · have hF := (if_neg c24).symm.trans hF
            obtain ⟨b25, hF⟩ := inb_some hF
            exact Fr_tr (Fr_up Fr.rf (by unfold Wr_X12_chance; omega)) (fr_X12_chance_J56  hF)
        · have hF := (if_neg c6).symm.trans hF
          obtain rfl := Option.some.inj hF
          exact (Fr_up Fr.rf (by unfold Wr_X12_chance; omega))
def Wr_X12_count (a : Nat) (j : Int) : Prop := (a = 94 ∧ j = 2)
theorem fr_X12_count_J149 {N : Nat}  {nx107 : (Int × Int) → Option (Int × Sto)} {v1 : Int} {v3 : Int} {t0 : Int} {t1 : Int} {σ : Sto} {res : Int × Sto} (hnx107 : ∀ q, nx107 q = some res → Fr (Wr_X12_count) σ res.2) (hF : F_X12_count_J149 N nx107 v1 v3 t0 t1 σ = some res) : Fr (Wr_X12_count) σ res.2 := by
  unfold F_X12_count_J149 at hF
  exact hnx107 _ hF
theorem fr_X12_count_J144 {N : Nat}  {nx107 : (Int × Int) → Option (Int × Sto)} {v1 : Int} {v3 : Int} {t0 : Int} {σ : Sto} {res : Int × Sto} (hnx107 : ∀ q, nx107 q = some res → Fr (Wr_X12_count) σ res.2) (hF : F_X12_count_J144 N nx107 v1 v3 t0 σ = some res) : Fr (Wr_X12_count) σ res.2 := by
  unfold F_X12_count_J144 at hF
  exact fr_X12_count_J149 hnx107 hF
theorem fr_X12_count_J148 {N : Nat}  {nx107 : (Int × Int) → Option (Int × Sto)} {v1 : Int} {v3 : Int} {t0 : Int} {σ : Sto} {res : Int × Sto} (hnx107 : ∀ q, nx107 q = some res → Fr (Wr_X12_count) σ res.2) (hF : F_X12_count_J148 N nx107 v1 v3 t0 σ = some res) : Fr (Wr_X12_count) σ res.2 := by
  unfold F_X12_count_J148 at hF
  exact fr_X12_count_J149 hnx107 hF
theorem fr_X12_count_J130 {N : Nat}  {nx107 : (Int × Int) → Option (Int × Sto)} {v1 : Int} {v3 : Int} {t0 : Int} {σ : Sto} {res : Int × Sto} (hnx107 : ∀ q, nx107 q = some res → Fr (Wr_X12_count) σ res.2) (hF : F_X12_count_J130 N nx107 v1 v3 t0 σ = some res) : Fr (Wr_X12_count) σ res.2 := by
  unfold F_X12_count_J130 at hF
  by_cases c2 : v1 = 7
  · have hF := (if_pos c2).symm.trans hF
    obtain ⟨q3, eq3, hF⟩ := bind_some' hF
    by_cases c4 : q3 ≤ 0
    · have hF := (if_pos c4).symm.trans hF
      exact fr_X12_count_J148 hnx107 hF
    · have hF := (if_neg c4).symm.trans hF
      exact fr_X12_count_J144 hnx107 hF
  · have hF := (if_neg c2).symm.trans hF
    exact fr_X12_count_J148 hnx107 hF
theorem fr_X12_count_B107 {N : Nat}  {nx107 : (Int × Int) → Option (Int × Sto)} {v1 : Int} {v2 : Int} {v3 : Int} {σ : Sto} {res : Int × Sto} (hnx107 : ∀ q, nx107 q = some res → Fr (Wr_X12_count) σ res.2) (hF : F_X12_count_B107 N nx107 v1 v2 v3 σ = some res) : Fr (Wr_X12_count) σ res.2 := by
  unfold F_X12_count_B107 at hF
  by_cases c1 : (σ.1 94 14) ≤ v3
  · have hF := (if_pos c1).symm.trans hF
    obtain rfl := Option.some.inj hF
    exact Fr.rf
  · have hF := (if_neg c1).symm.trans hF
    by_cases c5 : v1 = 6
    · have hF := (if_pos c5).symm.trans hF
      obtain ⟨q6, eq6, hF⟩ := bind_some' hF
      by_cases c7 : q6 < 0
      · have hF := (if_pos c7).symm.trans hF
        exact fr_X12_count_J144 hnx107 hF
      · have hF := (if_neg c7).symm.trans hF
        exact fr_X12_count_J130 hnx107 hF
    · have hF := (if_neg c5).symm.trans hF
      exact fr_X12_count_J130 hnx107 hF
theorem fr_X12_count_J105 {N : Nat}   {v1 : Int} {v2 : Int} {σ : Sto} {res : Int × Sto} (hF : F_X12_count_J105 N  v1 v2 σ = some res) : Fr (Wr_X12_count) σ res.2 := by
  unfold F_X12_count_J105 at hF
  exact (loopK_ind (res := res) (P := fun (q : Int × Int) => Fr (Wr_X12_count) σ res.2) (fun nx q hn hF => fr_X12_count_B107 hn hF) N _ hF)
theorem fr_X12_count {N : Nat} {v1 : Int} {σ : Sto} {res : Int × Sto} (hF : F_X12_count N v1 σ = some res) : Fr (Wr_X12_count) σ res.2 := by
  unfold F_X12_count at hF
  by_cases c8 : v1 = 0
  · have hF := (if_pos c8).symm.trans hF
    obtain rfl := Option.some.inj hF
    exact (Fr_up Fr.rf (by unfold Wr_X12_count; omega))
  · have hF := (if_neg c8).symm.trans hF
    by_cases c9 : v1 = 1
    · have hF := (if_pos c9).symm.trans hF
      obtain rfl := Option.some.inj hF
      exact (Fr_up Fr.rf (by unfold Wr_X12_count; omega))
    · have hF := (if_neg c9).symm.trans hF
      by_cases c10 : v1 = 2
      · have hF := (if_pos c10).symm.trans hF
        obtain ⟨q11, eq11, hF⟩ := bind_some' hF
        obtain rfl := Option.some.inj hF
        exact (Fr_up Fr.rf (by unfold Wr_X12_count; omega))
      · have hF := (if_neg c10).symm.trans hF
        by_cases c12 : v1 = 3
        · have hF := (if_pos c12).symm.trans hF
          obtain ⟨q13, eq13, hF⟩ := bind_some' hF
          obtain rfl := Option.some.inj hF
          exact (Fr_up Fr.rf (by unfold Wr_X12_count; omega))
        · have hF := (if_neg c12).symm.trans hF
          by_cases c14 : v1 = 4
          · have hF := (if_pos c14).symm.trans hF
            obtain ⟨b15, hF⟩ := inb_some hF
            obtain rfl := Option.some.inj hF
            exact (Fr_up Fr.rf (by unfold Wr_X12_count; omega))
          · have hF := (if_neg c14).symm.trans hF
            by_cases c16 : v1 = 5
            · have hF := (if_pos c16).symm.trans hF
              obtain ⟨b17, hF⟩ := inb_some hF
              obtain rfl := Option.some.inj hF
              exact (Fr_up Fr.rf (by unfold Wr_X12_count; omega))
            · have hF := (if_neg c16).symm.trans hF
              by_cases c18 : v1 = 6
              · have hF := (if_pos c18).symm.trans hF
                exact Fr_tr (Fr_up Fr.rf (by unfold Wr_X12_count; omega)) (fr_X12_count_J105  hF)
              · have hF := (if_neg c18).symm.trans hF
                by_cases c19 : v1 = 7
                · have hF := (if_pos c19).symm.trans hF
                  exact Fr_tr (Fr_up Fr.rf (by unfold Wr_X12_count; omega)) (fr_X12_count_J105  hF)
                · have hF := (if_neg c19).symm.trans hF
                  by_cases c20 : v1 = 8
                  · have hF := (if_pos c20).symm.trans hF
                    obtain rfl := Option.some.inj hF
                    exact (Fr_up Fr.rf (by unfold Wr_X12_count; omega))
                  · have hF := (if_neg c20).symm.trans hF
                    by_cases c21 : v1 = 9
                    · have hF := (if_pos c21).symm.trans hF
                      obtain rfl := Option.some.inj hF
                      exact (Fr_up Fr.rf (by unfold Wr_X12_count; omega))
                    · have hF := (if_neg c21).symm.trans hF
                      by_cases c22 : v1 = 10
                      · have hF := (if_pos c22).symm.trans hF
                        obtain ⟨b23, hF⟩ := inb_some hF
                        obtain rfl := Option.some.inj hF
                        exact (Fr_up Fr.rf (by unfold Wr_X12_count; omega))
                      · have hF := (if_neg c22).symm.trans hF
                        obtain rfl := Option.some.inj hF
                        exact (Fr_up Fr.rf (by unfold Wr_X12_count; omega))
