def Wr_X0_clear (v0 : Nat) (a : Nat) (j : Int) : Prop := (a = v0 ∧ j = 10) ∨ (a = v0 ∧ j = 11) ∨ (a = v0 ∧ j = 12) ∨ (a = v0 ∧ j = 13) ∨ (a = v0 + 8 ∧ j = 4) ∨ (a = v0 ∧ j = 8) ∨ (a = v0 ∧ j = 9)
theorem fr_X0_clear {N : Nat} {v0 : Nat} {σ : Sto} {res : Sto} (hF : F_X0_clear N v0 σ = some res) : Fr (Wr_X0_clear v0) σ res := by
  unfold F_X0_clear at hF
  obtain rfl := Option.some.inj hF
  exact (Fr_up (Fr_up (Fr_up (Fr_up (Fr_up (Fr_up (Fr_up Fr.rf (show Wr_X0_clear v0 _ _ from (Or.inr (Or.inr (Or.inr (Or.inr (Or.inr (Or.inl (by omega))))))))) (show Wr_X0_clear v0 _ _ from (Or.inr (Or.inr (Or.inr (Or.inr (Or.inr (Or.inr (by omega))))))))) (show Wr_X0_clear v0 _ _ from (Or.inr (Or.inr (Or.inr (Or.inr (Or.inl (by omega)))))))) (show Wr_X0_clear v0 _ _ from (Or.inl (by omega)))) (show Wr_X0_clear v0 _ _ from (Or.inr (Or.inl (by omega))))) (show Wr_X0_clear v0 _ _ from (Or.inr (Or.inr (Or.inl (by omega)))))) (show Wr_X0_clear v0 _ _ from (Or.inr (Or.inr (Or.inr (Or.inl (by omega)))))))
def Wr_X1_load (v0 : Nat) (v1 : Nat) (v2 : Nat) (v3 : Nat) (a : Nat) (j : Int) : Prop := (a = v0 ∧ j = 11) ∨ ((v0 + 1 ≤ a ∧ a ≤ v0 + 4))
theorem fr_X1_load_J258 {N : Nat} {v1 : Nat} {v2 : Nat}  {nx154 : (Int × Sto) → Option (Sto)} {v0 : Nat} {v3 : Nat} {v4 : Int} {v5 : Int} {σ : Sto} {res : Sto} (hnx154 : ∀ q, nx154 q = some res → Fr (Wr_X1_load v0 v1 v2 v3) q.2 res) (hF : F_X1_load_J258 N nx154 v0 v3 v4 v5 σ = some res) : Fr (Wr_X1_load v0 v1 v2 v3) σ res := by
  unfold F_X1_load_J258 at hF
  exact Fr_tr Fr.rf (hnx154 ((ja v5 1), σ) hF)
theorem fr_X1_load_B154 {N : Nat} {v1 : Nat} {v2 : Nat}  {nx154 : (Int × Sto) → Option (Sto)} {v0 : Nat} {v3 : Nat} {v4 : Int} {v5 : Int} {σ : Sto} {res : Sto} (hnx154 : ∀ q, nx154 q = some res → Fr (Wr_X1_load v0 v1 v2 v3) q.2 res) (hF : F_X1_load_B154 N nx154 v0 v3 v4 v5 σ = some res) : Fr (Wr_X1_load v0 v1 v2 v3) σ res := by
  unfold F_X1_load_B154 at hF
  by_cases c1 : (σ.1 v3 3) ≤ v5
  · have hF := (if_pos c1).symm.trans hF
    obtain rfl := Option.some.inj hF
    exact Fr.rf
  · have hF := (if_neg c1).symm.trans hF
    obtain ⟨b2, hF⟩ := inb_some hF
    by_cases c3 : (jand (jshr v4 (σ.1 (v3 + 1) v5)) 1) = 0
    · have hF := (if_pos c3).symm.trans hF
      by_cases c4 : (jand (jshr v4 (σ.1 (v3 + 2) v5)) 1) = 0
      · have hF := (if_pos c4).symm.trans hF
        obtain ⟨b5, hF⟩ := inb_some hF
        obtain ⟨b6, hF⟩ := inb_some hF
        obtain ⟨b7, hF⟩ := inb_some hF
        exact Fr_tr (Fr_up (Fr_up (Fr_up Fr.rf (show Wr_X1_load v0 v1 v2 v3 _ _ from (Or.inr (by omega)))) (show Wr_X1_load v0 v1 v2 v3 _ _ from (Or.inr (by omega)))) (show Wr_X1_load v0 v1 v2 v3 _ _ from (Or.inr (by omega)))) (fr_X1_load_J258 hnx154 hF)
      · have hF := (if_neg c4).symm.trans hF
        exact fr_X1_load_J258 hnx154 hF
    · have hF := (if_neg c3).symm.trans hF
      exact fr_X1_load_J258 hnx154 hF
theorem fr_X1_load_J151 {N : Nat} {v1 : Nat} {v2 : Nat}   {v0 : Nat} {v3 : Nat} {v4 : Int} {σ : Sto} {res : Sto} (hF : F_X1_load_J151 N  v0 v3 v4 σ = some res) : Fr (Wr_X1_load v0 v1 v2 v3) σ res := by
  unfold F_X1_load_J151 at hF
  exact (loopK_ind (res := res) (P := fun (q : Int × Sto) => Fr (Wr_X1_load v0 v1 v2 v3) q.2 res) (fun nx q hn hF => fr_X1_load_B154 hn hF) N (0, σ) hF)
theorem fr_X1_load_J145 {N : Nat}  {nx11 : (Int × Sto) → Option (Sto)} {v0 : Nat} {v1 : Nat} {v2 : Nat} {v3 : Nat} {v4 : Int} {v5 : Int} {σ : Sto} {res : Sto} (hnx11 : ∀ q, nx11 q = some res → Fr (Wr_X1_load v0 v1 v2 v3) q.2 res) (hF : F_X1_load_J145 N nx11 v0 v1 v2 v3 v4 v5 σ = some res) : Fr (Wr_X1_load v0 v1 v2 v3) σ res := by
  unfold F_X1_load_J145 at hF
  exact Fr_tr Fr.rf (hnx11 ((ja v5 1), σ) hF)
theorem fr_X1_load_B88 {N : Nat}  {nx11 : (Int × Sto) → Option (Sto)} {nx88 : (Int × Sto) → Option (Sto)} {v0 : Nat} {v1 : Nat} {v2 : Nat} {v3 : Nat} {v4 : Int} {v5 : Int} {v7 : Int} {σ : Sto} {res : Sto} (hnx11 : ∀ q, nx11 q = some res → Fr (Wr_X1_load v0 v1 v2 v3) q.2 res) (hnx88 : ∀ q, nx88 q = some res → Fr (Wr_X1_load v0 v1 v2 v3) q.2 res) (hF : F_X1_load_B88 N nx11 nx88 v0 v1 v2 v3 v4 v5 v7 σ = some res) : Fr (Wr_X1_load v0 v1 v2 v3) σ res := by
  unfold F_X1_load_B88 at hF
  by_cases c10 : (σ.1 v0 11) ≤ v7
  · have hF := (if_pos c10).symm.trans hF
    exact fr_X1_load_J145 hnx11 hF
  · have hF := (if_neg c10).symm.trans hF
    obtain ⟨b11, hF⟩ := inb_some hF
    exact Fr_tr (Fr_up (Fr_up Fr.rf (show Wr_X1_load v0 v1 v2 v3 _ _ from (Or.inr (by omega)))) (show Wr_X1_load v0 v1 v2 v3 _ _ from (Or.inr (by omega)))) (hnx88 ((ja v7 1), (upI (upI σ (v0 + 3) (ja (jm v5 12) v7) (jmax 0 (σ.1 (v2 + 1) (ja (jm v5 12) v7)))) (v0 + 4) (ja (jm v5 12) v7) ((upI σ (v0 + 3) (ja (jm v5 12) v7) (jmax 0 (σ.1 (v2 + 1) (ja (jm v5 12) v7)))).1 (v2 + 2) (ja (jm v5 12) v7)))) hF)
theorem fr_X1_load_J84 {N : Nat}  {nx11 : (Int × Sto) → Option (Sto)} {v0 : Nat} {v1 : Nat} {v2 : Nat} {v3 : Nat} {v4 : Int} {v5 : Int} {t1 : Int} {t2 : Int} {σ : Sto} {res : Sto} (hnx11 : ∀ q, nx11 q = some res → Fr (Wr_X1_load v0 v1 v2 v3) q.2 res) (hF : F_X1_load_J84 N nx11 v0 v1 v2 v3 v4 v5 t1 t2 σ = some res) : Fr (Wr_X1_load v0 v1 v2 v3) σ res := by
  unfold F_X1_load_J84 at hF
  obtain ⟨b9, hF⟩ := inb_some hF
  exact Fr_tr (Fr_up Fr.rf (show Wr_X1_load v0 v1 v2 v3 _ _ from (Or.inr (by omega)))) (loopK_ind (res := res) (P := fun (q : Int × Sto) => Fr (Wr_X1_load v0 v1 v2 v3) q.2 res) (fun nx q hn hF => fr_X1_load_B88 hnx11 hn hF) N (0, (upI σ (v0 + 2) t1 t2)) hF)
theorem fr_X1_load_J58 {N : Nat}  {nx11 : (Int × Sto) → Option (Sto)} {v0 : Nat} {v1 : Nat} {v2 : Nat} {v3 : Nat} {v4 : Int} {v5 : Int} {v6 : Int} {t1 : Int} {t2 : Int} {σ : Sto} {res : Sto} (hnx11 : ∀ q, nx11 q = some res → Fr (Wr_X1_load v0 v1 v2 v3) q.2 res) (hF : F_X1_load_J58 N nx11 v0 v1 v2 v3 v4 v5 v6 t1 t2 σ = some res) : Fr (Wr_X1_load v0 v1 v2 v3) σ res := by
  unfold F_X1_load_J58 at hF
  obtain ⟨b12, hF⟩ := inb_some hF
  by_cases c13 : v6 = 0
  · have hF := (if_pos c13).symm.trans hF
    exact Fr_tr (Fr_up Fr.rf (show Wr_X1_load v0 v1 v2 v3 _ _ from (Or.inr (by omega)))) (fr_X1_load_J84 hnx11 hF)
  · have hF := (if_neg c13).symm.trans hF
    obtain ⟨b14, hF⟩ := inb_some hF
    exact Fr_tr (Fr_up Fr.rf (show Wr_X1_load v0 v1 v2 v3 _ _ from (Or.inr (by omega)))) (fr_X1_load_J84 hnx11 hF)
theorem fr_X1_load_J35 {N : Nat}  {nx11 : (Int × Sto) → Option (Sto)} {v0 : Nat} {v1 : Nat} {v2 : Nat} {v3 : Nat} {v4 : Int} {v5 : Int} {t0 : Int} {σ : Sto} {res : Sto} (hnx11 : ∀ q, nx11 q = some res → Fr (Wr_X1_load v0 v1 v2 v3) q.2 res) (hF : F_X1_load_J35 N nx11 v0 v1 v2 v3 v4 v5 t0 σ = some res) : Fr (Wr_X1_load v0 v1 v2 v3) σ res := by
  unfold F_X1_load_J35 at hF
  by_cases c15 : t0 = 0
  · have hF := (if_pos c15).symm.trans hF
    exact fr_X1_load_J58 hnx11 hF
  · have hF := (if_neg c15).symm.trans hF
    obtain ⟨q16, eq16, hF⟩ := bind_some' hF
    exact fr_X1_load_J58 hnx11 hF
theorem fr_X1_load_B11 {N : Nat}  {nx11 : (Int × Sto) → Option (Sto)} {v0 : Nat} {v1 : Nat} {v2 : Nat} {v3 : Nat} {v4 : Int} {v5 : Int} {σ : Sto} {res : Sto} (hnx11 : ∀ q, nx11 q = some res → Fr (Wr_X1_load v0 v1 v2 v3) q.2 res) (hF : F_X1_load_B11 N nx11 v0 v1 v2 v3 v4 v5 σ = some res) : Fr (Wr_X1_load v0 v1 v2 v3) σ res := by
  unfold F_X1_load_B11 at hF
  by_cases c8 : (σ.1 v0 11) ≤ v5
  · have hF := (if_pos c8).symm.trans hF
    exact fr_X1_load_J151  hF
  · have hF := (if_neg c8).symm.trans hF
    by_cases c17 : (jand (jshr v4 v5) 1) = 0
    · have hF := (if_pos c17).symm.trans hF
      exact fr_X1_load_J35 hnx11 hF
    · have hF := (if_neg c17).symm.trans hF
      exact fr_X1_load_J35 hnx11 hF
theorem fr_X1_load {N : Nat} {v0 : Nat} {v1 : Nat} {v2 : Nat} {v3 : Nat} {v4 : Int} {σ : Sto} {res : Sto} (hF : F_X1_load N v0 v1 v2 v3 v4 σ = some res) : Fr (Wr_X1_load v0 v1 v2 v3) σ res := by
  unfold F_X1_load at hF
  exact Fr_tr (Fr_up Fr.rf (show Wr_X1_load v0 v1 v2 v3 _ _ from (Or.inl (by omega)))) (loopK_ind (res := res) (P := fun (q : Int × Sto) => Fr (Wr_X1_load v0 v1 v2 v3) q.2 res) (fun nx q hn hF => fr_X1_load_B11 hn hF) N (0, (upI σ v0 11 (σ.1 v1 9))) hF)
def Wr_X1_improve (v0 : Nat) (a : Nat) (j : Int) : Prop := ((v0 + 6 ≤ a ∧ a ≤ v0 + 7))
theorem fr_X1_improve_J54 {N : Nat}   {v0 : Nat} {v1 : Int} {v4 : Int} {v5 : Int} {σ : Sto} {res : Int × Sto} (hF : F_X1_improve_J54 N  v0 v1 v4 v5 σ = some res) : Fr (Wr_X1_improve v0) σ res.2 := by
  unfold F_X1_improve_J54 at hF
  obtain ⟨b3, hF⟩ := inb_some hF
  obtain rfl := Option.some.inj hF
  exact (Fr_up (Fr_up Fr.rf (show Wr_X1_improve v0 _ _ from (by unfold Wr_X1_improve; omega))) (show Wr_X1_improve v0 _ _ from (by unfold Wr_X1_improve; omega)))
theorem fr_X1_improve {N : Nat} {v0 : Nat} {v1 : Int} {v2 : Int} {v3 : Int} {σ : Sto} {res : Int × Sto} (hF : F_X1_improve N v0 v1 v2 v3 σ = some res) : Fr (Wr_X1_improve v0) σ res.2 := by
  unfold F_X1_improve at hF
  obtain ⟨b1, hF⟩ := inb_some hF
  by_cases c2 : (σ.1 (v0 + 7) v2) = 0
  · have hF := (if_pos c2).symm.trans hF
    obtain rfl := Option.some.inj hF
    exact Fr.rf
  · have hF := (if_neg c2).symm.trans hF
    obtain ⟨b4, hF⟩ := inb_some hF
    by_cases c5 : (σ.1 (v0 + 7) v1) = 0
    · have hF := (if_pos c5).symm.trans hF
      exact fr_X1_improve_J54  hF
    · have hF := (if_neg c5).symm.trans hF
      obtain ⟨q6, eq6, hF⟩ := bind_some' hF
      by_cases c7 : q6 = 0
      · have hF := (if_pos c7).symm.trans hF
        obtain rfl := Option.some.inj hF
        exact Fr.rf
      · have hF := (if_neg c7).symm.trans hF
        exact fr_X1_improve_J54  hF
def Wr_X1_improveAll (v0 : Nat) (a : Nat) (j : Int) : Prop := ((v0 + 6 ≤ a ∧ a ≤ v0 + 7))
theorem fr_X1_improveAll_J123 {N : Nat}  {nx4 : (Int × Int × Sto) → Option (Int × Sto)} {v0 : Nat} {v1 : Int} {v2 : Int} {σ : Sto} {res : Int × Sto} (hnx4 : ∀ q, nx4 q = some res → Fr (Wr_X1_improveAll v0) q.2.2 res.2) (hF : F_X1_improveAll_J123 N nx4 v0 v1 v2 σ = some res) : Fr (Wr_X1_improveAll v0) σ res.2 := by
  unfold F_X1_improveAll_J123 at hF
  exact Fr_tr Fr.rf (hnx4 (v1, (ja v2 1), σ) hF)
theorem fr_X1_improveAll_J117 {N : Nat}  {nx4 : (Int × Int × Sto) → Option (Int × Sto)} {nx14 : (Int × Int × Sto) → Option (Int × Sto)} {v0 : Nat} {v1 : Int} {v2 : Int} {v3 : Int} {σ : Sto} {res : Int × Sto} (hnx4 : ∀ q, nx4 q = some res → Fr (Wr_X1_improveAll v0) q.2.2 res.2) (hnx14 : ∀ q, nx14 q = some res → Fr (Wr_X1_improveAll v0) q.2.2 res.2) (hF : F_X1_improveAll_J117 N nx4 nx14 v0 v1 v2 v3 σ = some res) : Fr (Wr_X1_improveAll v0) σ res.2 := by
  unfold F_X1_improveAll_J117 at hF
  exact Fr_tr Fr.rf (hnx14 (v1, (ja v3 1), σ) hF)
theorem fr_X1_improveAll_J81 {N : Nat}  {nx4 : (Int × Int × Sto) → Option (Int × Sto)} {nx14 : (Int × Int × Sto) → Option (Int × Sto)} {v0 : Nat} {v1 : Int} {v2 : Int} {v3 : Int} {v4 : Int} {σ : Sto} {res : Int × Sto} (hnx4 : ∀ q, nx4 q = some res → Fr (Wr_X1_improveAll v0) q.2.2 res.2) (hnx14 : ∀ q, nx14 q = some res → Fr (Wr_X1_improveAll v0) q.2.2 res.2) (hF : F_X1_improveAll_J81 N nx4 nx14 v0 v1 v2 v3 v4 σ = some res) : Fr (Wr_X1_improveAll v0) σ res.2 := by
  unfold F_X1_improveAll_J81 at hF
  obtain ⟨b5, hF⟩ := inb_some hF
  by_cases c6 : (σ.1 (v0 + 1) v3) ≤ 0
  · have hF := (if_pos c6).symm.trans hF
    exact fr_X1_improveAll_J117 hnx4 hnx14 hF
  · have hF := (if_neg c6).symm.trans hF
    obtain ⟨b7, hF⟩ := inb_some hF
    by_cases c8 : (σ.1 (v0 + 5) v4) ≤ 0
    · have hF := (if_pos c8).symm.trans hF
      exact fr_X1_improveAll_J117 hnx4 hnx14 hF
    · have hF := (if_neg c8).symm.trans hF
      obtain ⟨q9, eq9, hF⟩ := bind_some' hF
      exact Fr_tr (Fr_tr Fr.rf (Fr_mono (fr_X1_improve (res := q9) eq9) (fun a j h => by have h : Wr_X1_improve _ a j := h; unfold Wr_X1_improve at h; unfold Wr_X1_improveAll; (exact (by omega))))) (fr_X1_improveAll_J117 hnx4 hnx14 hF)
theorem fr_X1_improveAll_B14 {N : Nat}  {nx4 : (Int × Int × Sto) → Option (Int × Sto)} {nx14 : (Int × Int × Sto) → Option (Int × Sto)} {v0 : Nat} {v2 : Int} {v1 : Int} {v3 : Int} {σ : Sto} {res : Int × Sto} (hnx4 : ∀ q, nx4 q = some res → Fr (Wr_X1_improveAll v0) q.2.2 res.2) (hnx14 : ∀ q, nx14 q = some res → Fr (Wr_X1_improveAll v0) q.2.2 res.2) (hF : F_X1_improveAll_B14 N nx4 nx14 v0 v2 v1 v3 σ = some res) : Fr (Wr_X1_improveAll v0) σ res.2 := by
  unfold F_X1_improveAll_B14 at hF
  obtain ⟨b2, hF⟩ := inb_some hF
  by_cases c3 : 0 ≤ (σ.1 (v0 + 1) v2)
  · have hF := (if_pos c3).symm.trans hF
    exact fr_X1_improveAll_J123 hnx4 hF
  · have hF := (if_neg c3).symm.trans hF
    by_cases c4 : (σ.1 v0 11) ≤ v3
    · have hF := (if_pos c4).symm.trans hF
      exact fr_X1_improveAll_J123 hnx4 hF
    · have hF := (if_neg c4).symm.trans hF
      obtain ⟨b10, hF⟩ := inb_some hF
      by_cases c11 : (σ.1 (v0 + 1) v3) ≤ 0
      · have hF := (if_pos c11).symm.trans hF
        exact fr_X1_improveAll_J81 hnx4 hnx14 hF
      · have hF := (if_neg c11).symm.trans hF
        obtain ⟨b12, hF⟩ := inb_some hF
        by_cases c13 : (σ.1 (v0 + 3) (ja (jm v2 12) v3)) ≤ (σ.1 (v0 + 5) (ja (jm v2 12) v3))
        · have hF := (if_pos c13).symm.trans hF
          exact fr_X1_improveAll_J81 hnx4 hnx14 hF
        · have hF := (if_neg c13).symm.trans hF
          obtain ⟨q14, eq14, hF⟩ := bind_some' hF
          exact Fr_tr (Fr_tr Fr.rf (Fr_mono (fr_X1_improve (res := q14) eq14) (fun a j h => by have h : Wr_X1_improve _ a j := h; unfold Wr_X1_improve at h; unfold Wr_X1_improveAll; (exact (by omega))))) (fr_X1_improveAll_J81 hnx4 hnx14 hF)
theorem fr_X1_improveAll_B4 {N : Nat}  {nx4 : (Int × Int × Sto) → Option (Int × Sto)} {v0 : Nat} {v1 : Int} {v2 : Int} {σ : Sto} {res : Int × Sto} (hnx4 : ∀ q, nx4 q = some res → Fr (Wr_X1_improveAll v0) q.2.2 res.2) (hF : F_X1_improveAll_B4 N nx4 v0 v1 v2 σ = some res) : Fr (Wr_X1_improveAll v0) σ res.2 := by
  unfold F_X1_improveAll_B4 at hF
  by_cases c1 : (σ.1 v0 11) ≤ v2
  · have hF := (if_pos c1).symm.trans hF
    obtain rfl := Option.some.inj hF
    exact Fr.rf
  · have hF := (if_neg c1).symm.trans hF
    exact (loopK_ind (res := res) (P := fun (q : Int × Int × Sto) => Fr (Wr_X1_improveAll v0) q.2.2 res.2) (fun nx q hn hF => fr_X1_improveAll_B14 hnx4 hn hF) N (v1, 0, σ) hF)
theorem fr_X1_improveAll {N : Nat} {v0 : Nat} {σ : Sto} {res : Int × Sto} (hF : F_X1_improveAll N v0 σ = some res) : Fr (Wr_X1_improveAll v0) σ res.2 := by
  unfold F_X1_improveAll at hF
  exact (loopK_ind (res := res) (P := fun (q : Int × Int × Sto) => Fr (Wr_X1_improveAll v0) q.2.2 res.2) (fun nx q hn hF => fr_X1_improveAll_B4 hn hF) N (0, 0, σ) hF)
def Wr_X1_measure (v0 : Nat) (a : Nat) (j : Int) : Prop := ((v0 + 6 ≤ a ∧ a ≤ v0 + 7))
theorem fr_X1_measure_B56 {N : Nat}  {nx56 : (Int × Int × Sto) → Option (Sto)} {v0 : Nat} {v1 : Int} {v2 : Int} {σ : Sto} {res : Sto} (hnx56 : ∀ q, nx56 q = some res → Fr (Wr_X1_measure v0) q.2.2 res) (hF : F_X1_measure_B56 N nx56 v0 v1 v2 σ = some res) : Fr (Wr_X1_measure v0) σ res := by
  unfold F_X1_measure_B56 at hF
  by_cases c1 : (σ.1 v0 11) < v2
  · have hF := (if_pos c1).symm.trans hF
    obtain rfl := Option.some.inj hF
    exact Fr.rf
  · have hF := (if_neg c1).symm.trans hF
    by_cases c2 : v1 = 0
    · have hF := (if_pos c2).symm.trans hF
      obtain rfl := Option.some.inj hF
      exact Fr.rf
    · have hF := (if_neg c2).symm.trans hF
      obtain ⟨q3, eq3, hF⟩ := bind_some' hF
      exact Fr_tr (Fr_tr Fr.rf (Fr_mono (fr_X1_improveAll (res := q3) eq3) (fun a j h => by have h : Wr_X1_improveAll _ a j := h; unfold Wr_X1_improveAll at h; unfold Wr_X1_measure; (exact (by omega))))) (hnx56 (q3.1, (ja v2 1), q3.2) hF)
theorem fr_X1_measure_J52 {N : Nat}   {v0 : Nat} {σ : Sto} {res : Sto} (hF : F_X1_measure_J52 N  v0 σ = some res) : Fr (Wr_X1_measure v0) σ res := by
  unfold F_X1_measure_J52 at hF
  exact (loopK_ind (res := res) (P := fun (q : Int × Int × Sto) => Fr (Wr_X1_measure v0) q.2.2 res) (fun nx q hn hF => fr_X1_measure_B56 hn hF) N (1, 0, σ) hF)
theorem fr_X1_measure_J45 {N : Nat}  {nx2 : (Int × Sto) → Option (Sto)} {v0 : Nat} {v1 : Int} {t1 : Int} {t2 : Int} {σ : Sto} {res : Sto} (hnx2 : ∀ q, nx2 q = some res → Fr (Wr_X1_measure v0) q.2 res) (hF : F_X1_measure_J45 N nx2 v0 v1 t1 t2 σ = some res) : Fr (Wr_X1_measure v0) σ res := by
  unfold F_X1_measure_J45 at hF
  obtain ⟨b5, hF⟩ := inb_some hF
  exact Fr_tr (Fr_up Fr.rf (show Wr_X1_measure v0 _ _ from (by unfold Wr_X1_measure; omega))) (hnx2 ((ja v1 1), (upI σ (v0 + 7) t1 t2)) hF)
theorem fr_X1_measure_J44 {N : Nat}  {nx2 : (Int × Sto) → Option (Sto)} {v0 : Nat} {v1 : Int} {t1 : Int} {σ : Sto} {res : Sto} (hnx2 : ∀ q, nx2 q = some res → Fr (Wr_X1_measure v0) q.2 res) (hF : F_X1_measure_J44 N nx2 v0 v1 t1 σ = some res) : Fr (Wr_X1_measure v0) σ res := by
  unfold F_X1_measure_J44 at hF
  exact fr_X1_measure_J45 hnx2 hF
theorem fr_X1_measure_B2 {N : Nat}  {nx2 : (Int × Sto) → Option (Sto)} {v0 : Nat} {v1 : Int} {σ : Sto} {res : Sto} (hnx2 : ∀ q, nx2 q = some res → Fr (Wr_X1_measure v0) q.2 res) (hF : F_X1_measure_B2 N nx2 v0 v1 σ = some res) : Fr (Wr_X1_measure v0) σ res := by
  unfold F_X1_measure_B2 at hF
  by_cases c4 : (σ.1 v0 11) ≤ v1
  · have hF := (if_pos c4).symm.trans hF
    exact fr_X1_measure_J52  hF
  · have hF := (if_neg c4).symm.trans hF
    obtain ⟨b6, hF⟩ := inb_some hF
    by_cases c7 : ((upI σ (v0 + 6) v1 0).1 (v0 + 1) v1) ≤ 0
    · have hF := (if_pos c7).symm.trans hF
      exact Fr_tr (Fr_up Fr.rf (show Wr_X1_measure v0 _ _ from (by unfold Wr_X1_measure; omega))) (fr_X1_measure_J44 hnx2 hF)
    · have hF := (if_neg c7).symm.trans hF
      by_cases c8 : ((upI σ (v0 + 6) v1 0).1 (v0 + 2) v1) ≤ 0
      · have hF := (if_pos c8).symm.trans hF
        exact Fr_tr (Fr_up Fr.rf (show Wr_X1_measure v0 _ _ from (by unfold Wr_X1_measure; omega))) (fr_X1_measure_J44 hnx2 hF)
      · have hF := (if_neg c8).symm.trans hF
        exact Fr_tr (Fr_up Fr.rf (show Wr_X1_measure v0 _ _ from (by unfold Wr_X1_measure; omega))) (fr_X1_measure_J45 hnx2 hF)
theorem fr_X1_measure {N : Nat} {v0 : Nat} {σ : Sto} {res : Sto} (hF : F_X1_measure N v0 σ = some res) : Fr (Wr_X1_measure v0) σ res := by
  unfold F_X1_measure at hF
  exact (loopK_ind (res := res) (P := fun (q : Int × Sto) => Fr (Wr_X1_measure v0) q.2 res) (fun nx q hn hF => fr_X1_measure_B2 hn hF) N (0, σ) hF)
def Wr_X1_findRoute (v0 : Nat) (a : Nat) (j : Int) : Prop := (a = v0 ∧ j = 9) ∨ (a = v0 + 8)
theorem fr_X1_findRoute_J172 {N : Nat} {v0 : Nat}    {σ : Sto} {res : Int × Sto} (hF : F_X1_findRoute_J172 N   σ = some res) : Fr (Wr_X1_findRoute v0) σ res.2 := by
  unfold F_X1_findRoute_J172 at hF
  obtain rfl := Option.some.inj hF
  exact Fr.rf
theorem fr_X1_findRoute_J140 {N : Nat}   {v0 : Nat} {σ : Sto} {res : Int × Sto} (hF : F_X1_findRoute_J140 N  v0 σ = some res) : Fr (Wr_X1_findRoute v0) σ res.2 := by
  unfold F_X1_findRoute_J140 at hF
  by_cases c1 : (σ.1 v0 9) ≤ 1
  · have hF := (if_pos c1).symm.trans hF
    exact fr_X1_findRoute_J172  hF
  · have hF := (if_neg c1).symm.trans hF
    obtain ⟨b2, hF⟩ := inb_some hF
    obtain ⟨b3, hF⟩ := inb_some hF
    by_cases c4 : (σ.1 (v0 + 7) (σ.1 (v0 + 8) (js (σ.1 v0 9) 1))) = 1
    · have hF := (if_pos c4).symm.trans hF
      obtain rfl := Option.some.inj hF
      exact Fr.rf
    · have hF := (if_neg c4).symm.trans hF
      exact fr_X1_findRoute_J172  hF
theorem fr_X1_findRoute_J133 {N : Nat}  {nx90 : (Int × Int × Sto) → Option (Int × Sto)} {v0 : Nat} {v3 : Int} {t0 : Int} {σ : Sto} {res : Int × Sto} (hnx90 : ∀ q, nx90 q = some res → Fr (Wr_X1_findRoute v0) q.2.2 res.2) (hF : F_X1_findRoute_J133 N nx90 v0 v3 t0 σ = some res) : Fr (Wr_X1_findRoute v0) σ res.2 := by
  unfold F_X1_findRoute_J133 at hF
  exact Fr_tr Fr.rf (hnx90 (t0, (ja v3 1), σ) hF)
theorem fr_X1_findRoute_B90 {N : Nat}  {nx90 : (Int × Int × Sto) → Option (Int × Sto)} {v0 : Nat} {v2 : Int} {v3 : Int} {σ : Sto} {res : Int × Sto} (hnx90 : ∀ q, nx90 q = some res → Fr (Wr_X1_findRoute v0) q.2.2 res.2) (hF : F_X1_findRoute_B90 N nx90 v0 v2 v3 σ = some res) : Fr (Wr_X1_findRoute v0) σ res.2 := by
  unfold F_X1_findRoute_B90 at hF
  by_cases c5 : 12 ≤ v3
  · have hF := (if_pos c5).symm.trans hF
    exact fr_X1_findRoute_J140  hF
  · have hF := (if_neg c5).symm.trans hF
    by_cases c6 : v2 < 0
    · have hF := (if_pos c6).symm.trans hF
      exact fr_X1_findRoute_J140  hF
    · have hF := (if_neg c6).symm.trans hF
      obtain ⟨b7, hF⟩ := inb_some hF
      obtain ⟨b8, hF⟩ := inb_some hF
      by_cases c9 : ((upI (upI σ (v0 + 8) v3 v2) v0 9 (ja v3 1)).1 (v0 + 7) v2) ≤ 1
      · have hF := (if_pos c9).symm.trans hF
        exact Fr_tr (Fr_up (Fr_up Fr.rf (show Wr_X1_findRoute v0 _ _ from (Or.inr (by omega)))) (show Wr_X1_findRoute v0 _ _ from (Or.inl (by omega)))) (fr_X1_findRoute_J133 hnx90 hF)
      · have hF := (if_neg c9).symm.trans hF
        obtain ⟨q10, eq10, hF⟩ := bind_some' hF
        exact Fr_tr (Fr_up (Fr_up Fr.rf (show Wr_X1_findRoute v0 _ _ from (Or.inr (by omega)))) (show Wr_X1_findRoute v0 _ _ from (Or.inl (by omega)))) (fr_X1_findRoute_J133 hnx90 hF)
theorem fr_X1_findRoute_J81 {N : Nat}   {v0 : Nat} {v1 : Int} {σ : Sto} {res : Int × Sto} (hF : F_X1_findRoute_J81 N  v0 v1 σ = some res) : Fr (Wr_X1_findRoute v0) σ res.2 := by
  unfold F_X1_findRoute_J81 at hF
  exact Fr_tr (Fr_up Fr.rf (show Wr_X1_findRoute v0 _ _ from (Or.inl (by omega)))) (loopK_ind (res := res) (P := fun (q : Int × Int × Sto) => Fr (Wr_X1_findRoute v0) q.2.2 res.2) (fun nx q hn hF => fr_X1_findRoute_B90 hn hF) N (v1, 0, (upI σ v0 9 0)) hF)
theorem fr_X1_findRoute_J75 {N : Nat}  {nx4 : (Int × Int) → Option (Int × Sto)} {v0 : Nat} {v1 : Int} {v2 : Int} {σ : Sto} {res : Int × Sto} (hnx4 : ∀ q, nx4 q = some res → Fr (Wr_X1_findRoute v0) σ res.2) (hF : F_X1_findRoute_J75 N nx4 v0 v1 v2 σ = some res) : Fr (Wr_X1_findRoute v0) σ res.2 := by
  unfold F_X1_findRoute_J75 at hF
  exact hnx4 _ hF
theorem fr_X1_findRoute_J73 {N : Nat}  {nx4 : (Int × Int) → Option (Int × Sto)} {v0 : Nat} {v2 : Int} {σ : Sto} {res : Int × Sto} (hnx4 : ∀ q, nx4 q = some res → Fr (Wr_X1_findRoute v0) σ res.2) (hF : F_X1_findRoute_J73 N nx4 v0 v2 σ = some res) : Fr (Wr_X1_findRoute v0) σ res.2 := by
  unfold F_X1_findRoute_J73 at hF
  exact fr_X1_findRoute_J75 hnx4 hF
theorem fr_X1_findRoute_J44 {N : Nat}  {nx4 : (Int × Int) → Option (Int × Sto)} {v0 : Nat} {v1 : Int} {v2 : Int} {t0 : Int} {σ : Sto} {res : Int × Sto} (hnx4 : ∀ q, nx4 q = some res → Fr (Wr_X1_findRoute v0) σ res.2) (hF : F_X1_findRoute_J44 N nx4 v0 v1 v2 t0 σ = some res) : Fr (Wr_X1_findRoute v0) σ res.2 := by
  unfold F_X1_findRoute_J44 at hF
  by_cases c12 : t0 = 0
  · have hF := (if_pos c12).symm.trans hF
    exact fr_X1_findRoute_J75 hnx4 hF
  · have hF := (if_neg c12).symm.trans hF
    by_cases c13 : v1 < 0
    · have hF := (if_pos c13).symm.trans hF
      exact fr_X1_findRoute_J73 hnx4 hF
    · have hF := (if_neg c13).symm.trans hF
      obtain ⟨b14, hF⟩ := inb_some hF
      obtain ⟨q15, eq15, hF⟩ := bind_some' hF
      by_cases c16 : q15 = 0
      · have hF := (if_pos c16).symm.trans hF
        exact fr_X1_findRoute_J75 hnx4 hF
      · have hF := (if_neg c16).symm.trans hF
        exact fr_X1_findRoute_J73 hnx4 hF
theorem fr_X1_findRoute_J43 {N : Nat}  {nx4 : (Int × Int) → Option (Int × Sto)} {v0 : Nat} {v1 : Int} {v2 : Int} {σ : Sto} {res : Int × Sto} (hnx4 : ∀ q, nx4 q = some res → Fr (Wr_X1_findRoute v0) σ res.2) (hF : F_X1_findRoute_J43 N nx4 v0 v1 v2 σ = some res) : Fr (Wr_X1_findRoute v0) σ res.2 := by
  unfold F_X1_findRoute_J43 at hF
  exact fr_X1_findRoute_J44 hnx4 hF
theorem fr_X1_findRoute_B4 {N : Nat}  {nx4 : (Int × Int) → Option (Int × Sto)} {v0 : Nat} {v1 : Int} {v2 : Int} {σ : Sto} {res : Int × Sto} (hnx4 : ∀ q, nx4 q = some res → Fr (Wr_X1_findRoute v0) σ res.2) (hF : F_X1_findRoute_B4 N nx4 v0 v1 v2 σ = some res) : Fr (Wr_X1_findRoute v0) σ res.2 := by
  unfold F_X1_findRoute_B4 at hF
  by_cases c11 : (σ.1 v0 11) ≤ v2
  · have hF := (if_pos c11).symm.trans hF
    exact fr_X1_findRoute_J81  hF
  · have hF := (if_neg c11).symm.trans hF
    obtain ⟨b17, hF⟩ := inb_some hF
    by_cases c18 : 0 ≤ (σ.1 (v0 + 1) v2)
    · have hF := (if_pos c18).symm.trans hF
      exact fr_X1_findRoute_J43 hnx4 hF
    · have hF := (if_neg c18).symm.trans hF
      by_cases c19 : (σ.1 (v0 + 2) v2) ≤ 0
      · have hF := (if_pos c19).symm.trans hF
        exact fr_X1_findRoute_J43 hnx4 hF
      · have hF := (if_neg c19).symm.trans hF
        by_cases c20 : (σ.1 (v0 + 7) v2) ≤ 0
        · have hF := (if_pos c20).symm.trans hF
          exact fr_X1_findRoute_J43 hnx4 hF
        · have hF := (if_neg c20).symm.trans hF
          exact fr_X1_findRoute_J44 hnx4 hF
theorem fr_X1_findRoute {N : Nat} {v0 : Nat} {σ : Sto} {res : Int × Sto} (hF : F_X1_findRoute N v0 σ = some res) : Fr (Wr_X1_findRoute v0) σ res.2 := by
  unfold F_X1_findRoute at hF
  exact (loopK_ind (res := res) (P := fun (q : Int × Int) => Fr (Wr_X1_findRoute v0) σ res.2) (fun nx q hn hF => fr_X1_findRoute_B4 hn hF) N ((-1), 0) hF)
def Wr_X1_takeRoute (v0 : Nat) (a : Nat) (j : Int) : Prop := (a = v0 ∧ j = 10) ∨ (a = v0 ∧ j = 12) ∨ (a = v0 ∧ j = 13) ∨ (a = v0 + 2) ∨ (a = v0 + 5) ∨ (a = v0 + 9)
theorem fr_X1_takeRoute_J228 {N : Nat}   {v0 : Nat} {σ : Sto} {res : Sto} (hF : F_X1_takeRoute_J228 N  v0 σ = some res) : Fr (Wr_X1_takeRoute v0) σ res := by
  unfold F_X1_takeRoute_J228 at hF
  obtain rfl := Option.some.inj hF
  exact (Fr_up Fr.rf (show Wr_X1_takeRoute v0 _ _ from (Or.inr (Or.inl (by omega)))))
theorem fr_X1_takeRoute_J163 {N : Nat}   {v0 : Nat} {v1 : Int} {v2 : Int} {σ : Sto} {res : Sto} (hF : F_X1_takeRoute_J163 N  v0 v1 v2 σ = some res) : Fr (Wr_X1_takeRoute v0) σ res := by
  unfold F_X1_takeRoute_J163 at hF
  obtain ⟨b5, hF⟩ := inb_some hF
  obtain ⟨b6, hF⟩ := inb_some hF
  obtain ⟨b7, hF⟩ := inb_some hF
  by_cases c8 : ((upI (upI (upI σ (v0 + 2) (σ.1 (v0 + 8) 0) (js (σ.1 (v0 + 2) (σ.1 (v0 + 8) 0)) v2)) (v0 + 2) v1 (js ((upI σ (v0 + 2) (σ.1 (v0 + 8) 0) (js (σ.1 (v0 + 2) (σ.1 (v0 + 8) 0)) v2)).1 (v0 + 2) v1) v2)) v0 13 (ja ((upI (upI σ (v0 + 2) (σ.1 (v0 + 8) 0) (js (σ.1 (v0 + 2) (σ.1 (v0 + 8) 0)) v2)) (v0 + 2) v1 (js ((upI σ (v0 + 2) (σ.1 (v0 + 8) 0) (js (σ.1 (v0 + 2) (σ.1 (v0 + 8) 0)) v2)).1 (v0 + 2) v1) v2)).1 v0 13) v2)).1 v0 12) = 0
  · have hF := (if_pos c8).symm.trans hF
    obtain ⟨y9, hF⟩ := grd_some hF
    exact Fr_tr (Fr_cp (Fr_up (Fr_up (Fr_up (Fr_up Fr.rf (show Wr_X1_takeRoute v0 _ _ from (Or.inr (Or.inr (Or.inr (Or.inl (by omega))))))) (show Wr_X1_takeRoute v0 _ _ from (Or.inr (Or.inr (Or.inr (Or.inl (by omega))))))) (show Wr_X1_takeRoute v0 _ _ from (Or.inr (Or.inr (Or.inl (by omega)))))) (show Wr_X1_takeRoute v0 _ _ from (Or.inl (by omega)))) (fun j => (show Wr_X1_takeRoute v0 _ _ from (Or.inr (Or.inr (Or.inr (Or.inr (Or.inr (by omega))))))))) (fr_X1_takeRoute_J228  hF)
  · have hF := (if_neg c8).symm.trans hF
    exact Fr_tr (Fr_up (Fr_up (Fr_up Fr.rf (show Wr_X1_takeRoute v0 _ _ from (Or.inr (Or.inr (Or.inr (Or.inl (by omega))))))) (show Wr_X1_takeRoute v0 _ _ from (Or.inr (Or.inr (Or.inr (Or.inl (by omega))))))) (show Wr_X1_takeRoute v0 _ _ from (Or.inr (Or.inr (Or.inl (by omega)))))) (fr_X1_takeRoute_J228  hF)
theorem fr_X1_takeRoute_J157 {N : Nat}  {nx76 : (Int × Sto) → Option (Sto)} {v0 : Nat} {v1 : Int} {v2 : Int} {v3 : Int} {σ : Sto} {res : Sto} (hnx76 : ∀ q, nx76 q = some res → Fr (Wr_X1_takeRoute v0) q.2 res) (hF : F_X1_takeRoute_J157 N nx76 v0 v1 v2 v3 σ = some res) : Fr (Wr_X1_takeRoute v0) σ res := by
  unfold F_X1_takeRoute_J157 at hF
  exact Fr_tr Fr.rf (hnx76 ((ja v3 1), σ) hF)
theorem fr_X1_takeRoute_B76 {N : Nat}  {nx76 : (Int × Sto) → Option (Sto)} {v0 : Nat} {v1 : Int} {v2 : Int} {v3 : Int} {σ : Sto} {res : Sto} (hnx76 : ∀ q, nx76 q = some res → Fr (Wr_X1_takeRoute v0) q.2 res) (hF : F_X1_takeRoute_B76 N nx76 v0 v1 v2 v3 σ = some res) : Fr (Wr_X1_takeRoute v0) σ res := by
  unfold F_X1_takeRoute_B76 at hF
  by_cases c10 : (σ.1 v0 9) ≤ (ja v3 1)
  · have hF := (if_pos c10).symm.trans hF
    exact fr_X1_takeRoute_J163  hF
  · have hF := (if_neg c10).symm.trans hF
    obtain ⟨b11, hF⟩ := inb_some hF
    obtain ⟨b12, hF⟩ := inb_some hF
    by_cases c13 : 0 ≤ (σ.1 (v0 + 1) (σ.1 (v0 + 8) v3))
    · have hF := (if_pos c13).symm.trans hF
      obtain ⟨b14, hF⟩ := inb_some hF
      obtain ⟨b15, hF⟩ := inb_some hF
      exact Fr_tr (Fr_up Fr.rf (show Wr_X1_takeRoute v0 _ _ from (Or.inr (Or.inr (Or.inr (Or.inr (Or.inl (by omega)))))))) (fr_X1_takeRoute_J157 hnx76 hF)
    · have hF := (if_neg c13).symm.trans hF
      obtain ⟨b16, hF⟩ := inb_some hF
      obtain ⟨b17, hF⟩ := inb_some hF
      exact Fr_tr (Fr_up Fr.rf (show Wr_X1_takeRoute v0 _ _ from (Or.inr (Or.inr (Or.inr (Or.inr (Or.inl (by omega)))))))) (fr_X1_takeRoute_J157 hnx76 hF)
theorem fr_X1_takeRoute_J74 {N : Nat}   {v0 : Nat} {v1 : Int} {v2 : Int} {σ : Sto} {res : Sto} (hF : F_X1_takeRoute_J74 N  v0 v1 v2 σ = some res) : Fr (Wr_X1_takeRoute v0) σ res := by
  unfold F_X1_takeRoute_J74 at hF
  exact (loopK_ind (res := res) (P := fun (q : Int × Sto) => Fr (Wr_X1_takeRoute v0) q.2 res) (fun nx q hn hF => fr_X1_takeRoute_B76 hn hF) N (0, σ) hF)
theorem fr_X1_takeRoute_B35 {N : Nat}  {nx35 : (Int × Int) → Option (Sto)} {v0 : Nat} {v1 : Int} {v2 : Int} {v3 : Int} {σ : Sto} {res : Sto} (hnx35 : ∀ q, nx35 q = some res → Fr (Wr_X1_takeRoute v0) σ res) (hF : F_X1_takeRoute_B35 N nx35 v0 v1 v2 v3 σ = some res) : Fr (Wr_X1_takeRoute v0) σ res := by
  unfold F_X1_takeRoute_B35 at hF
  by_cases c18 : (σ.1 v0 9) ≤ (ja v3 1)
  · have hF := (if_pos c18).symm.trans hF
    exact fr_X1_takeRoute_J74  hF
  · have hF := (if_neg c18).symm.trans hF
    obtain ⟨b19, hF⟩ := inb_some hF
    obtain ⟨b20, hF⟩ := inb_some hF
    obtain ⟨q21, eq21, hF⟩ := bind_some' hF
    exact hnx35 _ hF
theorem fr_X1_takeRoute {N : Nat} {v0 : Nat} {σ : Sto} {res : Sto} (hF : F_X1_takeRoute N v0 σ = some res) : Fr (Wr_X1_takeRoute v0) σ res := by
  unfold F_X1_takeRoute at hF
  obtain ⟨b1, hF⟩ := inb_some hF
  obtain ⟨b2, hF⟩ := inb_some hF
  obtain ⟨b3, hF⟩ := inb_some hF
  obtain ⟨b4, hF⟩ := inb_some hF
  exact (loopK_ind (res := res) (P := fun (q : Int × Int) => Fr (Wr_X1_takeRoute v0) σ res) (fun nx q hn hF => fr_X1_takeRoute_B35 hn hF) N ((jmin (σ.1 (v0 + 2) (σ.1 (v0 + 8) 0)) (σ.1 (v0 + 2) (σ.1 (v0 + 8) (js (σ.1 v0 9) 1)))), 0) hF)
def Wr_X1_run (v0 : Nat) (a : Nat) (j : Int) : Prop := (a = v0 ∧ j = 10) ∨ (a = v0 ∧ j = 12) ∨ (a = v0 ∧ j = 13) ∨ (a = v0 ∧ j = 9) ∨ (a = v0 + 2) ∨ ((v0 + 5 ≤ a ∧ a ≤ v0 + 9))
theorem fr_X1_run_J70 {N : Nat}  {nx43 : (Int × Int × Sto) → Option (Sto)} {v0 : Nat} {v1 : Int} {v2 : Int} {σ : Sto} {res : Sto} (hnx43 : ∀ q, nx43 q = some res → Fr (Wr_X1_run v0) q.2.2 res) (hF : F_X1_run_J70 N nx43 v0 v1 v2 σ = some res) : Fr (Wr_X1_run v0) σ res := by
  unfold F_X1_run_J70 at hF
  exact Fr_tr Fr.rf (hnx43 (v1, (ja v2 1), σ) hF)
theorem fr_X1_run_B43 {N : Nat}  {nx43 : (Int × Int × Sto) → Option (Sto)} {v0 : Nat} {v1 : Int} {v2 : Int} {σ : Sto} {res : Sto} (hnx43 : ∀ q, nx43 q = some res → Fr (Wr_X1_run v0) q.2.2 res) (hF : F_X1_run_B43 N nx43 v0 v1 v2 σ = some res) : Fr (Wr_X1_run v0) σ res := by
  unfold F_X1_run_B43 at hF
  by_cases c1 : 1000000 ≤ v2
  · have hF := (if_pos c1).symm.trans hF
    obtain rfl := Option.some.inj hF
    exact Fr.rf
  · have hF := (if_neg c1).symm.trans hF
    by_cases c2 : v1 = 0
    · have hF := (if_pos c2).symm.trans hF
      obtain rfl := Option.some.inj hF
      exact Fr.rf
    · have hF := (if_neg c2).symm.trans hF
      obtain ⟨q3, eq3, hF⟩ := bind_some' hF
      obtain ⟨q4, eq4, hF⟩ := bind_some' hF
      by_cases c5 : q4.1 = 0
      · have hF := (if_pos c5).symm.trans hF
        exact Fr_tr (Fr_tr (Fr_tr Fr.rf (Fr_mono (fr_X1_measure (res := q3) eq3) (fun a j h => by have h : Wr_X1_measure _ a j := h; unfold Wr_X1_measure at h; unfold Wr_X1_run; (exact (Or.inr (Or.inr (Or.inr (Or.inr (Or.inr (by omega)))))))))) (Fr_mono (fr_X1_findRoute (res := q4) eq4) (fun a j h => by
      unfold Wr_X1_findRoute at h
      unfold Wr_X1_run
      rcases h with h | h
      · exact (Or.inr (Or.inr (Or.inr (Or.inl (by omega)))))
      · exact (Or.inr (Or.inr (Or.inr (Or.inr (Or.inr (by omega))))))))) (fr_X1_run_J70 hnx43 hF)
      · have hF := (if_neg c5).symm.trans hF
        obtain ⟨q6, eq6, hF⟩ := bind_some' hF
        exact Fr_tr (Fr_tr (Fr_tr (Fr_tr Fr.rf (Fr_mono (fr_X1_measure (res := q3) eq3) (fun a j h => by have h : Wr_X1_measure _ a j := h; unfold Wr_X1_measure at h; unfold Wr_X1_run; (exact (Or.inr (Or.inr (Or.inr (Or.inr (Or.inr (by omega)))))))))) (Fr_mono (fr_X1_findRoute (res := q4) eq4) (fun a j h => by
      unfold Wr_X1_findRoute at h
      unfold Wr_X1_run
      rcases h with h | h
      · exact (Or.inr (Or.inr (Or.inr (Or.inl (by omega)))))
      · exact (Or.inr (Or.inr (Or.inr (Or.inr (Or.inr (by omega))))))))) (Fr_mono (fr_X1_takeRoute (res := q6) eq6) (fun a j h => by
      unfold Wr_X1_takeRoute at h
      unfold Wr_X1_run
      rcases h with h | h | h | h | h | h
      · exact (Or.inl (by omega))
      · exact (Or.inr (Or.inl (by omega)))
      · exact (Or.inr (Or.inr (Or.inl (by omega))))
      · exact (Or.inr (Or.inr (Or.inr (Or.inr (Or.inl (by omega))))))
      · exact (Or.inr (Or.inr (Or.inr (Or.inr (Or.inr (by omega))))))
      · exact (Or.inr (Or.inr (Or.inr (Or.inr (Or.inr (by omega))))))))) (fr_X1_run_J70 hnx43 hF)
theorem fr_X1_run_J24 {N : Nat}   {v0 : Nat} {σ : Sto} {res : Sto} (hF : F_X1_run_J24 N  v0 σ = some res) : Fr (Wr_X1_run v0) σ res := by
  unfold F_X1_run_J24 at hF
  exact Fr_tr (Fr_up (Fr_up (Fr_up Fr.rf (show Wr_X1_run v0 _ _ from (Or.inl (by omega)))) (show Wr_X1_run v0 _ _ from (Or.inr (Or.inl (by omega))))) (show Wr_X1_run v0 _ _ from (Or.inr (Or.inr (Or.inl (by omega)))))) (loopK_ind (res := res) (P := fun (q : Int × Int × Sto) => Fr (Wr_X1_run v0) q.2.2 res) (fun nx q hn hF => fr_X1_run_B43 hn hF) N (1, 0, (upI (upI (upI σ v0 10 0) v0 12 0) v0 13 0)) hF)
theorem fr_X1_run_B2 {N : Nat}  {nx2 : (Int × Sto) → Option (Sto)} {v0 : Nat} {v1 : Int} {σ : Sto} {res : Sto} (hnx2 : ∀ q, nx2 q = some res → Fr (Wr_X1_run v0) q.2 res) (hF : F_X1_run_B2 N nx2 v0 v1 σ = some res) : Fr (Wr_X1_run v0) σ res := by
  unfold F_X1_run_B2 at hF
  by_cases c7 : 144 ≤ v1
  · have hF := (if_pos c7).symm.trans hF
    exact fr_X1_run_J24  hF
  · have hF := (if_neg c7).symm.trans hF
    obtain ⟨b8, hF⟩ := inb_some hF
    exact Fr_tr (Fr_up Fr.rf (show Wr_X1_run v0 _ _ from (Or.inr (Or.inr (Or.inr (Or.inr (Or.inr (by omega)))))))) (hnx2 ((ja v1 1), (upI σ (v0 + 5) v1 0)) hF)
theorem fr_X1_run {N : Nat} {v0 : Nat} {σ : Sto} {res : Sto} (hF : F_X1_run N v0 σ = some res) : Fr (Wr_X1_run v0) σ res := by
  unfold F_X1_run at hF
  exact (loopK_ind (res := res) (P := fun (q : Int × Sto) => Fr (Wr_X1_run v0) q.2 res) (fun nx q hn hF => fr_X1_run_B2 hn hF) N (0, σ) hF)
def Wr_X2_clear (a : Nat) (j : Int) : Prop := (a = 33 ∧ j = 1)
theorem fr_X2_clear {N : Nat}  {σ : Sto} {res : Sto} (hF : F_X2_clear N  σ = some res) : Fr (Wr_X2_clear) σ res := by
  unfold F_X2_clear at hF
  obtain rfl := Option.some.inj hF
  exact (Fr_up Fr.rf (show Wr_X2_clear _ _ from (by unfold Wr_X2_clear; omega)))
def Wr_X2_push (a : Nat) (j : Int) : Prop := (a = 33 ∧ j = 1) ∨ (a = 34)
theorem fr_X2_push_J30 {N : Nat}   {v1 : Int} {v2 : Int} {v3 : Int} {v4 : Int} {v5 : Int} {σ : Sto} {res : Sto} (hF : F_X2_push_J30 N  v1 v2 v3 v4 v5 σ = some res) : Fr (Wr_X2_push) σ res := by
  unfold F_X2_push_J30 at hF
  obtain ⟨b1, hF⟩ := inb_some hF
  obtain ⟨b2, hF⟩ := inb_some hF
  obtain ⟨b3, hF⟩ := inb_some hF
  obtain ⟨b4, hF⟩ := inb_some hF
  obtain ⟨b5, hF⟩ := inb_some hF
  obtain rfl := Option.some.inj hF
  exact (Fr_up (Fr_up (Fr_up (Fr_up (Fr_up (Fr_up Fr.rf (show Wr_X2_push _ _ from (Or.inr (by omega)))) (show Wr_X2_push _ _ from (Or.inr (by omega)))) (show Wr_X2_push _ _ from (Or.inr (by omega)))) (show Wr_X2_push _ _ from (Or.inr (by omega)))) (show Wr_X2_push _ _ from (Or.inr (by omega)))) (show Wr_X2_push _ _ from (Or.inl (by omega))))
theorem fr_X2_push {N : Nat} {v1 : Int} {v2 : Int} {v3 : Int} {v4 : Int} {v5 : Int} {σ : Sto} {res : Sto} (hF : F_X2_push N v1 v2 v3 v4 v5 σ = some res) : Fr (Wr_X2_push) σ res := by
  unfold F_X2_push at hF
  by_cases c6 : (σ.1 33 1) < 20
  · have hF := (if_pos c6).symm.trans hF
    exact fr_X2_push_J30  hF
  · have hF := (if_neg c6).symm.trans hF
    obtain ⟨y7, hF⟩ := grd_some hF
    exact Fr_tr (Fr_up (Fr_cp Fr.rf (fun j => (show Wr_X2_push _ _ from (Or.inr (by omega))))) (show Wr_X2_push _ _ from (Or.inl (by omega)))) (fr_X2_push_J30  hF)
def Wr_X2_pop (a : Nat) (j : Int) : Prop := (a = 33 ∧ j = 1)
theorem fr_X2_pop {N : Nat}  {σ : Sto} {res : Int × Sto} (hF : F_X2_pop N  σ = some res) : Fr (Wr_X2_pop) σ res.2 := by
  unfold F_X2_pop at hF
  obtain rfl := Option.some.inj hF
  exact (Fr_up Fr.rf (show Wr_X2_pop _ _ from (by unfold Wr_X2_pop; omega)))
def Wr_X4_addStart (v0 : Nat) (a : Nat) (j : Int) : Prop := (a = v0 ∧ j = 2) ∨ (a = v0 + 1)
theorem fr_X4_addStart_J85 {N : Nat}   {v0 : Nat} {v1 : Int} {v2 : Int} {σ : Sto} {res : Sto} (hF : F_X4_addStart_J85 N  v0 v1 v2 σ = some res) : Fr (Wr_X4_addStart v0) σ res := by
  unfold F_X4_addStart_J85 at hF
  obtain ⟨b1, hF⟩ := inb_some hF
  obtain rfl := Option.some.inj hF
  exact (Fr_up (Fr_up Fr.rf (show Wr_X4_addStart v0 _ _ from (Or.inr (by omega)))) (show Wr_X4_addStart v0 _ _ from (Or.inl (by omega))))
theorem fr_X4_addStart_B51 {N : Nat}  {nx51 : (Int × Sto) → Option (Sto)} {v0 : Nat} {v1 : Int} {v2 : Int} {v3 : Int} {σ : Sto} {res : Sto} (hnx51 : ∀ q, nx51 q = some res → Fr (Wr_X4_addStart v0) q.2 res) (hF : F_X4_addStart_B51 N nx51 v0 v1 v2 v3 σ = some res) : Fr (Wr_X4_addStart v0) σ res := by
  unfold F_X4_addStart_B51 at hF
  by_cases c2 : v3 ≤ v2
  · have hF := (if_pos c2).symm.trans hF
    exact fr_X4_addStart_J85  hF
  · have hF := (if_neg c2).symm.trans hF
    by_cases c3 : 25 ≤ v3
    · have hF := (if_pos c3).symm.trans hF
      exact fr_X4_addStart_J85  hF
    · have hF := (if_neg c3).symm.trans hF
      obtain ⟨b4, hF⟩ := inb_some hF
      obtain ⟨b5, hF⟩ := inb_some hF
      exact Fr_tr (Fr_up Fr.rf (show Wr_X4_addStart v0 _ _ from (Or.inr (by omega)))) (hnx51 ((js v3 1), (upI σ (v0 + 1) v3 (σ.1 (v0 + 1) (js v3 1)))) hF)
theorem fr_X4_addStart_J46 {N : Nat}   {v0 : Nat} {v1 : Int} {v2 : Int} {σ : Sto} {res : Sto} (hF : F_X4_addStart_J46 N  v0 v1 v2 σ = some res) : Fr (Wr_X4_addStart v0) σ res := by
  unfold F_X4_addStart_J46 at hF
  exact (loopK_ind (res := res) (P := fun (q : Int × Sto) => Fr (Wr_X4_addStart v0) q.2 res) (fun nx q hn hF => fr_X4_addStart_B51 hn hF) N ((σ.1 v0 2), σ) hF)
theorem fr_X4_addStart_B10 {N : Nat}  {nx10 : (Int × Int) → Option (Sto)} {v0 : Nat} {v1 : Int} {v2 : Int} {v3 : Int} {σ : Sto} {res : Sto} (hnx10 : ∀ q, nx10 q = some res → Fr (Wr_X4_addStart v0) σ res) (hF : F_X4_addStart_B10 N nx10 v0 v1 v2 v3 σ = some res) : Fr (Wr_X4_addStart v0) σ res := by
  unfold F_X4_addStart_B10 at hF
  by_cases c6 : v3 ≤ 0
  · have hF := (if_pos c6).symm.trans hF
    exact fr_X4_addStart_J46  hF
  · have hF := (if_neg c6).symm.trans hF
    obtain ⟨b7, hF⟩ := inb_some hF
    by_cases c8 : (σ.1 (v0 + 1) (js v2 1)) < v1
    · have hF := (if_pos c8).symm.trans hF
      exact fr_X4_addStart_J46  hF
    · have hF := (if_neg c8).symm.trans hF
      by_cases c9 : (σ.1 (v0 + 1) (js v2 1)) = v1
      · have hF := (if_pos c9).symm.trans hF
        obtain rfl := Option.some.inj hF
        exact Fr.rf
      · have hF := (if_neg c9).symm.trans hF
        exact hnx10 _ hF
theorem fr_X4_addStart {N : Nat} {v0 : Nat} {v1 : Int} {σ : Sto} {res : Sto} (hF : F_X4_addStart N v0 v1 σ = some res) : Fr (Wr_X4_addStart v0) σ res := by
  unfold F_X4_addStart at hF
  exact (loopK_ind (res := res) (P := fun (q : Int × Int) => Fr (Wr_X4_addStart v0) σ res) (fun nx q hn hF => fr_X4_addStart_B10 hn hF) N ((σ.1 v0 2), (σ.1 v0 2)) hF)
def Wr_X10_loadPercents (v1 : Nat) (a : Nat) (j : Int) : Prop := ((47 ≤ a ∧ a ≤ 48))
theorem fr_X10_loadPercents_J142 {N : Nat}  {nx64 : (Int × Sto) → Option (Sto)} {v1 : Nat} {v2 : Int} {v3 : Int} {σ : Sto} {res : Sto} (hnx64 : ∀ q, nx64 q = some res → Fr (Wr_X10_loadPercents v1) q.2 res) (hF : F_X10_loadPercents_J142 N nx64 v1 v2 v3 σ = some res) : Fr (Wr_X10_loadPercents v1) σ res := by
  unfold F_X10_loadPercents_J142 at hF
  exact Fr_tr Fr.rf (hnx64 ((ja v3 1), σ) hF)
theorem fr_X10_loadPercents_B64 {N : Nat}  {nx64 : (Int × Sto) → Option (Sto)} {v1 : Nat} {v2 : Int} {v3 : Int} {σ : Sto} {res : Sto} (hnx64 : ∀ q, nx64 q = some res → Fr (Wr_X10_loadPercents v1) q.2 res) (hF : F_X10_loadPercents_B64 N nx64 v1 v2 v3 σ = some res) : Fr (Wr_X10_loadPercents v1) σ res := by
  unfold F_X10_loadPercents_B64 at hF
  by_cases c1 : (σ.1 v1 4) ≤ v3
  · have hF := (if_pos c1).symm.trans hF
    obtain rfl := Option.some.inj hF
    exact Fr.rf
  · have hF := (if_neg c1).symm.trans hF
    obtain ⟨b2, hF⟩ := inb_some hF
    by_cases c3 : v2 < (σ.1 (v1 + 4) v3)
    · have hF := (if_pos c3).symm.trans hF
      exact fr_X10_loadPercents_J142 hnx64 hF
    · have hF := (if_neg c3).symm.trans hF
      obtain ⟨b4, hF⟩ := inb_some hF
      by_cases c5 : (σ.1 (v1 + 4) v3) < (σ.1 48 (ja (jm (σ.1 (v1 + 1) v3) 8) (σ.1 (v1 + 2) v3)))
      · have hF := (if_pos c5).symm.trans hF
        exact fr_X10_loadPercents_J142 hnx64 hF
      · have hF := (if_neg c5).symm.trans hF
        exact Fr_tr (Fr_up (Fr_up Fr.rf (show Wr_X10_loadPercents v1 _ _ from (by unfold Wr_X10_loadPercents; omega))) (show Wr_X10_loadPercents v1 _ _ from (by unfold Wr_X10_loadPercents; omega))) (fr_X10_loadPercents_J142 hnx64 hF)
theorem fr_X10_loadPercents_J62 {N : Nat}   {v1 : Nat} {v2 : Int} {σ : Sto} {res : Sto} (hF : F_X10_loadPercents_J62 N  v1 v2 σ = some res) : Fr (Wr_X10_loadPercents v1) σ res := by
  unfold F_X10_loadPercents_J62 at hF
  exact (loopK_ind (res := res) (P := fun (q : Int × Sto) => Fr (Wr_X10_loadPercents v1) q.2 res) (fun nx q hn hF => fr_X10_loadPercents_B64 hn hF) N (0, σ) hF)
theorem fr_X10_loadPercents_J56 {N : Nat}  {nx2 : (Int × Sto) → Option (Sto)} {v1 : Nat} {v2 : Int} {v3 : Int} {σ : Sto} {res : Sto} (hnx2 : ∀ q, nx2 q = some res → Fr (Wr_X10_loadPercents v1) q.2 res) (hF : F_X10_loadPercents_J56 N nx2 v1 v2 v3 σ = some res) : Fr (Wr_X10_loadPercents v1) σ res := by
  unfold F_X10_loadPercents_J56 at hF
  exact Fr_tr Fr.rf (hnx2 ((ja v3 1), σ) hF)
theorem fr_X10_loadPercents_B15 {N : Nat}  {nx2 : (Int × Sto) → Option (Sto)} {nx15 : (Int × Sto) → Option (Sto)} {v1 : Nat} {v2 : Int} {v3 : Int} {v4 : Int} {σ : Sto} {res : Sto} (hnx2 : ∀ q, nx2 q = some res → Fr (Wr_X10_loadPercents v1) q.2 res) (hnx15 : ∀ q, nx15 q = some res → Fr (Wr_X10_loadPercents v1) q.2 res) (hF : F_X10_loadPercents_B15 N nx2 nx15 v1 v2 v3 v4 σ = some res) : Fr (Wr_X10_loadPercents v1) σ res := by
  unfold F_X10_loadPercents_B15 at hF
  by_cases c7 : (σ.1 46 5) ≤ v4
  · have hF := (if_pos c7).symm.trans hF
    exact fr_X10_loadPercents_J56 hnx2 hF
  · have hF := (if_neg c7).symm.trans hF
    obtain ⟨b8, hF⟩ := inb_some hF
    exact Fr_tr (Fr_up (Fr_up Fr.rf (show Wr_X10_loadPercents v1 _ _ from (by unfold Wr_X10_loadPercents; omega))) (show Wr_X10_loadPercents v1 _ _ from (by unfold Wr_X10_loadPercents; omega))) (hnx15 ((ja v4 1), (upI (upI σ 47 (ja (jm v3 8) v4) 0) 48 (ja (jm v3 8) v4) (-1))) hF)
theorem fr_X10_loadPercents_B2 {N : Nat}  {nx2 : (Int × Sto) → Option (Sto)} {v1 : Nat} {v2 : Int} {v3 : Int} {σ : Sto} {res : Sto} (hnx2 : ∀ q, nx2 q = some res → Fr (Wr_X10_loadPercents v1) q.2 res) (hF : F_X10_loadPercents_B2 N nx2 v1 v2 v3 σ = some res) : Fr (Wr_X10_loadPercents v1) σ res := by
  unfold F_X10_loadPercents_B2 at hF
  by_cases c6 : (σ.1 46 5) ≤ v3
  · have hF := (if_pos c6).symm.trans hF
    exact fr_X10_loadPercents_J62  hF
  · have hF := (if_neg c6).symm.trans hF
    exact (loopK_ind (res := res) (P := fun (q : Int × Sto) => Fr (Wr_X10_loadPercents v1) q.2 res) (fun nx q hn hF => fr_X10_loadPercents_B15 hnx2 hn hF) N ((ja v3 1), σ) hF)
theorem fr_X10_loadPercents {N : Nat} {v1 : Nat} {v2 : Int} {σ : Sto} {res : Sto} (hF : F_X10_loadPercents N v1 v2 σ = some res) : Fr (Wr_X10_loadPercents v1) σ res := by
  unfold F_X10_loadPercents at hF
  exact (loopK_ind (res := res) (P := fun (q : Int × Sto) => Fr (Wr_X10_loadPercents v1) q.2 res) (fun nx q hn hF => fr_X10_loadPercents_B2 hn hF) N (0, σ) hF)
def Wr_X10_loadParts (a : Nat) (j : Int) : Prop := (a = 49)
theorem fr_X10_loadParts_J75 {N : Nat}  {nx18 : (Int × Sto) → Option (Sto)} {v1 : Int} {v2 : Int} {v3 : Int} {v4 : UInt32} {σ : Sto} {res : Sto} (hnx18 : ∀ q, nx18 q = some res → Fr (Wr_X10_loadParts) q.2 res) (hF : F_X10_loadParts_J75 N nx18 v1 v2 v3 v4 σ = some res) : Fr (Wr_X10_loadParts) σ res := by
  unfold F_X10_loadParts_J75 at hF
  obtain ⟨b3, hF⟩ := inb_some hF
  exact Fr_tr (Fr_uf Fr.rf (show Wr_X10_loadParts _ _ from (by unfold Wr_X10_loadParts; omega))) (hnx18 ((ja v3 1), (upF σ 49 (ja v2 v3) (v4.toNat : Int))) hF)
theorem fr_X10_loadParts_B32 {N : Nat}  {nx18 : (Int × Sto) → Option (Sto)} {nx32 : (UInt32 × Int) → Option (Sto)} {v1 : Int} {v2 : Int} {v3 : Int} {v4 : UInt32} {v5 : Int} {σ : Sto} {res : Sto} (hnx18 : ∀ q, nx18 q = some res → Fr (Wr_X10_loadParts) q.2 res) (hnx32 : ∀ q, nx32 q = some res → Fr (Wr_X10_loadParts) σ res) (hF : F_X10_loadParts_B32 N nx18 nx32 v1 v2 v3 v4 v5 σ = some res) : Fr (Wr_X10_loadParts) σ res := by
  unfold F_X10_loadParts_B32 at hF
  by_cases c4 : v3 ≤ v5
  · have hF := (if_pos c4).symm.trans hF
    exact fr_X10_loadParts_J75 hnx18 hF
  · have hF := (if_neg c4).symm.trans hF
    obtain ⟨b5, hF⟩ := inb_some hF
    obtain ⟨b6, hF⟩ := inb_some hF
    obtain ⟨n7, hF⟩ := grd_some hF
    obtain ⟨n8, hF⟩ := grd_some hF
    obtain ⟨n9, hF⟩ := grd_some hF
    exact hnx32 _ hF
theorem fr_X10_loadParts_B18 {N : Nat}  {nx18 : (Int × Sto) → Option (Sto)} {v1 : Int} {v2 : Int} {v3 : Int} {σ : Sto} {res : Sto} (hnx18 : ∀ q, nx18 q = some res → Fr (Wr_X10_loadParts) q.2 res) (hF : F_X10_loadParts_B18 N nx18 v1 v2 v3 σ = some res) : Fr (Wr_X10_loadParts) σ res := by
  unfold F_X10_loadParts_B18 at hF
  by_cases c2 : (σ.1 46 5) ≤ v3
  · have hF := (if_pos c2).symm.trans hF
    obtain rfl := Option.some.inj hF
    exact Fr.rf
  · have hF := (if_neg c2).symm.trans hF
    exact (loopK_ind (res := res) (P := fun (q : UInt32 × Int) => Fr (Wr_X10_loadParts) σ res) (fun nx q hn hF => fr_X10_loadParts_B32 hnx18 hn hF) N (FP.fconst0, v1) hF)
theorem fr_X10_loadParts {N : Nat} {v1 : Int} {σ : Sto} {res : Sto} (hF : F_X10_loadParts N v1 σ = some res) : Fr (Wr_X10_loadParts) σ res := by
  unfold F_X10_loadParts at hF
  obtain ⟨b1, hF⟩ := inb_some hF
  exact Fr_tr (Fr_uf Fr.rf (show Wr_X10_loadParts _ _ from (by unfold Wr_X10_loadParts; omega))) (loopK_ind (res := res) (P := fun (q : Int × Sto) => Fr (Wr_X10_loadParts) q.2 res) (fun nx q hn hF => fr_X10_loadParts_B18 hn hF) N ((ja v1 1), (upF σ 49 (ja (jm v1 8) v1) (FP.fconst1.toNat : Int))) hF)
def Wr_X10_load (v1 : Nat) (a : Nat) (j : Int) : Prop := (a = 46 ∧ j = 5) ∨ ((47 ≤ a ∧ a ≤ 49))
theorem fr_X10_load_B19 {N : Nat} {v1 : Nat}  {nx19 : (Int × Sto) → Option (Sto)} {v3 : Int} {σ : Sto} {res : Sto} (hnx19 : ∀ q, nx19 q = some res → Fr (Wr_X10_load v1) q.2 res) (hF : F_X10_load_B19 N nx19 v3 σ = some res) : Fr (Wr_X10_load v1) σ res := by
  unfold F_X10_load_B19 at hF
  by_cases c2 : (σ.1 46 5) ≤ v3
  · have hF := (if_pos c2).symm.trans hF
    obtain rfl := Option.some.inj hF
    exact Fr.rf
  · have hF := (if_neg c2).symm.trans hF
    obtain ⟨q3, eq3, hF⟩ := bind_some' hF
    exact Fr_tr (Fr_tr Fr.rf (Fr_mono (fr_X10_loadParts (res := q3) eq3) (fun a j h => by have h : Wr_X10_loadParts a j := h; unfold Wr_X10_loadParts at h; unfold Wr_X10_load; (exact (Or.inr (by omega)))))) (hnx19 ((ja v3 1), q3) hF)
theorem fr_X10_load {N : Nat} {v1 : Nat} {v2 : Int} {σ : Sto} {res : Sto} (hF : F_X10_load N v1 v2 σ = some res) : Fr (Wr_X10_load v1) σ res := by
  unfold F_X10_load at hF
  obtain ⟨q1, eq1, hF⟩ := bind_some' hF
  exact Fr_tr (Fr_tr (Fr_up Fr.rf (show Wr_X10_load v1 _ _ from (Or.inl (by omega)))) (Fr_mono (fr_X10_loadPercents (res := q1) eq1) (fun a j h => by have h : Wr_X10_loadPercents _ a j := h; unfold Wr_X10_loadPercents at h; unfold Wr_X10_load; (exact (Or.inr (by omega)))))) (loopK_ind (res := res) (P := fun (q : Int × Sto) => Fr (Wr_X10_load v1) q.2 res) (fun nx q hn hF => fr_X10_load_B19 hn hF) N (0, q1) hF)
def Wr_X10_judge (a : Nat) (j : Int) : Prop := (a = 50)
theorem fr_X10_judge_J67 {N : Nat}  {nx2 : (Int × Sto) → Option (Sto)} {v1 : Int} {v2 : Int} {σ : Sto} {res : Sto} (hnx2 : ∀ q, nx2 q = some res → Fr (Wr_X10_judge) q.2 res) (hF : F_X10_judge_J67 N nx2 v1 v2 σ = some res) : Fr (Wr_X10_judge) σ res := by
  unfold F_X10_judge_J67 at hF
  exact Fr_tr Fr.rf (hnx2 ((ja v2 1), σ) hF)
theorem fr_X10_judge_J61 {N : Nat}  {nx2 : (Int × Sto) → Option (Sto)} {nx21 : (Int × Sto) → Option (Sto)} {v1 : Int} {v2 : Int} {v3 : Int} {σ : Sto} {res : Sto} (hnx2 : ∀ q, nx2 q = some res → Fr (Wr_X10_judge) q.2 res) (hnx21 : ∀ q, nx21 q = some res → Fr (Wr_X10_judge) q.2 res) (hF : F_X10_judge_J61 N nx2 nx21 v1 v2 v3 σ = some res) : Fr (Wr_X10_judge) σ res := by
  unfold F_X10_judge_J61 at hF
  exact Fr_tr Fr.rf (hnx21 ((ja v3 1), σ) hF)
theorem fr_X10_judge_B21 {N : Nat}  {nx2 : (Int × Sto) → Option (Sto)} {nx21 : (Int × Sto) → Option (Sto)} {v1 : Int} {v2 : Int} {v3 : Int} {σ : Sto} {res : Sto} (hnx2 : ∀ q, nx2 q = some res → Fr (Wr_X10_judge) q.2 res) (hnx21 : ∀ q, nx21 q = some res → Fr (Wr_X10_judge) q.2 res) (hF : F_X10_judge_B21 N nx2 nx21 v1 v2 v3 σ = some res) : Fr (Wr_X10_judge) σ res := by
  unfold F_X10_judge_B21 at hF
  by_cases c3 : (σ.1 46 5) ≤ v3
  · have hF := (if_pos c3).symm.trans hF
    exact fr_X10_judge_J67 hnx2 hF
  · have hF := (if_neg c3).symm.trans hF
    obtain ⟨b4, hF⟩ := inb_some hF
    obtain ⟨n5, hF⟩ := grd_some hF
    by_cases c6 : (jfcmp (FP.fmul (fb (σ.2 49 (ja (jm v2 8) v3))) 1120403456) (ji2f v1) .l) < 0
    · have hF := (if_pos c6).symm.trans hF
      exact fr_X10_judge_J61 hnx2 hnx21 hF
    · have hF := (if_neg c6).symm.trans hF
      obtain ⟨b7, hF⟩ := inb_some hF
      exact Fr_tr (Fr_up Fr.rf (show Wr_X10_judge _ _ from (by unfold Wr_X10_judge; omega))) (fr_X10_judge_J61 hnx2 hnx21 hF)
theorem fr_X10_judge_B2 {N : Nat}  {nx2 : (Int × Sto) → Option (Sto)} {v1 : Int} {v2 : Int} {σ : Sto} {res : Sto} (hnx2 : ∀ q, nx2 q = some res → Fr (Wr_X10_judge) q.2 res) (hF : F_X10_judge_B2 N nx2 v1 v2 σ = some res) : Fr (Wr_X10_judge) σ res := by
  unfold F_X10_judge_B2 at hF
  by_cases c1 : (σ.1 46 5) ≤ v2
  · have hF := (if_pos c1).symm.trans hF
    obtain rfl := Option.some.inj hF
    exact Fr.rf
  · have hF := (if_neg c1).symm.trans hF
    obtain ⟨b2, hF⟩ := inb_some hF
    exact Fr_tr (Fr_up Fr.rf (show Wr_X10_judge _ _ from (by unfold Wr_X10_judge; omega))) (loopK_ind (res := res) (P := fun (q : Int × Sto) => Fr (Wr_X10_judge) q.2 res) (fun nx q hn hF => fr_X10_judge_B21 hnx2 hn hF) N ((ja v2 1), (upI σ 50 v2 0)) hF)
theorem fr_X10_judge {N : Nat} {v1 : Int} {σ : Sto} {res : Sto} (hF : F_X10_judge N v1 σ = some res) : Fr (Wr_X10_judge) σ res := by
  unfold F_X10_judge at hF
  exact (loopK_ind (res := res) (P := fun (q : Int × Sto) => Fr (Wr_X10_judge) q.2 res) (fun nx q hn hF => fr_X10_judge_B2 hn hF) N (0, σ) hF)
def Wr_X4_fill (v0 : Nat) (v1 : Nat) (a : Nat) (j : Int) : Prop := (a = v0 ∧ j = 2) ∨ ((v0 + 1 ≤ a ∧ a ≤ v0 + 2)) ∨ (a = 46 ∧ j = 5) ∨ ((47 ≤ a ∧ a ≤ 50))
theorem fr_X4_fill_J113 {N : Nat}  {nx50 : (Int × Sto) → Option (Sto)} {v0 : Nat} {v1 : Nat} {v2 : Int} {v4 : Int} {σ : Sto} {res : Sto} (hnx50 : ∀ q, nx50 q = some res → Fr (Wr_X4_fill v0 v1) q.2 res) (hF : F_X4_fill_J113 N nx50 v0 v1 v2 v4 σ = some res) : Fr (Wr_X4_fill v0 v1) σ res := by
  unfold F_X4_fill_J113 at hF
  exact Fr_tr Fr.rf (hnx50 ((ja v4 1), σ) hF)
theorem fr_X4_fill_B79 {N : Nat}  {nx50 : (Int × Sto) → Option (Sto)} {nx79 : (Int × Sto) → Option (Sto)} {v0 : Nat} {v1 : Nat} {v2 : Int} {v4 : Int} {v5 : Int} {σ : Sto} {res : Sto} (hnx50 : ∀ q, nx50 q = some res → Fr (Wr_X4_fill v0 v1) q.2 res) (hnx79 : ∀ q, nx79 q = some res → Fr (Wr_X4_fill v0 v1) q.2 res) (hF : F_X4_fill_B79 N nx50 nx79 v0 v1 v2 v4 v5 σ = some res) : Fr (Wr_X4_fill v0 v1) σ res := by
  unfold F_X4_fill_B79 at hF
  by_cases c6 : (σ.1 v1 8) ≤ v5
  · have hF := (if_pos c6).symm.trans hF
    exact fr_X4_fill_J113 hnx50 hF
  · have hF := (if_neg c6).symm.trans hF
    obtain ⟨q7, eq7, hF⟩ := bind_some' hF
    obtain ⟨b8, hF⟩ := inb_some hF
    exact Fr_tr (Fr_up Fr.rf (show Wr_X4_fill v0 v1 _ _ from (Or.inr (Or.inl (by omega))))) (hnx79 ((ja v5 1), (upI σ (v0 + 2) (ja (jm v4 8) v5) q7)) hF)
theorem fr_X4_fill_B50 {N : Nat}  {nx50 : (Int × Sto) → Option (Sto)} {v0 : Nat} {v1 : Nat} {v2 : Int} {v4 : Int} {σ : Sto} {res : Sto} (hnx50 : ∀ q, nx50 q = some res → Fr (Wr_X4_fill v0 v1) q.2 res) (hF : F_X4_fill_B50 N nx50 v0 v1 v2 v4 σ = some res) : Fr (Wr_X4_fill v0 v1) σ res := by
  unfold F_X4_fill_B50 at hF
  by_cases c2 : (σ.1 v0 2) ≤ v4
  · have hF := (if_pos c2).symm.trans hF
    obtain rfl := Option.some.inj hF
    exact Fr.rf
  · have hF := (if_neg c2).symm.trans hF
    obtain ⟨b3, hF⟩ := inb_some hF
    obtain ⟨q4, eq4, hF⟩ := bind_some' hF
    obtain ⟨q5, eq5, hF⟩ := bind_some' hF
    exact Fr_tr (Fr_tr (Fr_tr Fr.rf (Fr_mono (fr_X10_load (res := q4) eq4) (fun a j h => by
      unfold Wr_X10_load at h
      unfold Wr_X4_fill
      rcases h with h | h
      · exact (Or.inr (Or.inr (Or.inl (by omega))))
      · exact (Or.inr (Or.inr (Or.inr (by omega))))))) (Fr_mono (fr_X10_judge (res := q5) eq5) (fun a j h => by have h : Wr_X10_judge a j := h; unfold Wr_X10_judge at h; unfold Wr_X4_fill; (exact (Or.inr (Or.inr (Or.inr (by omega)))))))) (loopK_ind (res := res) (P := fun (q : Int × Sto) => Fr (Wr_X4_fill v0 v1) q.2 res) (fun nx q hn hF => fr_X4_fill_B79 hnx50 hn hF) N (0, q5) hF)
theorem fr_X4_fill_J47 {N : Nat}   {v0 : Nat} {v1 : Nat} {v2 : Int} {σ : Sto} {res : Sto} (hF : F_X4_fill_J47 N  v0 v1 v2 σ = some res) : Fr (Wr_X4_fill v0 v1) σ res := by
  unfold F_X4_fill_J47 at hF
  exact (loopK_ind (res := res) (P := fun (q : Int × Sto) => Fr (Wr_X4_fill v0 v1) q.2 res) (fun nx q hn hF => fr_X4_fill_B50 hn hF) N (0, σ) hF)
theorem fr_X4_fill_B15 {N : Nat}  {nx15 : (Int × Sto) → Option (Sto)} {v0 : Nat} {v1 : Nat} {v2 : Int} {v4 : Int} {σ : Sto} {res : Sto} (hnx15 : ∀ q, nx15 q = some res → Fr (Wr_X4_fill v0 v1) q.2 res) (hF : F_X4_fill_B15 N nx15 v0 v1 v2 v4 σ = some res) : Fr (Wr_X4_fill v0 v1) σ res := by
  unfold F_X4_fill_B15 at hF
  by_cases c9 : (σ.1 (v1 + 8) 4) ≤ v4
  · have hF := (if_pos c9).symm.trans hF
    exact fr_X4_fill_J47  hF
  · have hF := (if_neg c9).symm.trans hF
    obtain ⟨b10, hF⟩ := inb_some hF
    obtain ⟨q11, eq11, hF⟩ := bind_some' hF
    exact Fr_tr (Fr_tr Fr.rf (Fr_mono (fr_X4_addStart (res := q11) eq11) (fun a j h => by
      unfold Wr_X4_addStart at h
      unfold Wr_X4_fill
      rcases h with h | h
      · exact (Or.inl (by omega))
      · exact (Or.inr (Or.inl (by omega)))))) (hnx15 ((ja v4 1), q11) hF)
theorem fr_X4_fill {N : Nat} {v0 : Nat} {v1 : Nat} {v2 : Int} {σ : Sto} {res : Sto} (hF : F_X4_fill N v0 v1 v2 σ = some res) : Fr (Wr_X4_fill v0 v1) σ res := by
  unfold F_X4_fill at hF
  obtain ⟨b1, hF⟩ := inb_some hF
  exact Fr_tr (Fr_up (Fr_up Fr.rf (show Wr_X4_fill v0 v1 _ _ from (Or.inr (Or.inl (by omega))))) (show Wr_X4_fill v0 v1 _ _ from (Or.inl (by omega)))) (loopK_ind (res := res) (P := fun (q : Int × Sto) => Fr (Wr_X4_fill v0 v1) q.2 res) (fun nx q hn hF => fr_X4_fill_B15 hn hF) N (0, (upI (upI σ (v0 + 1) 0 0) v0 2 1)) hF)
def Wr_X5_clear (v0 : Nat) (a : Nat) (j : Int) : Prop := (a = v0 ∧ j = 3)
theorem fr_X5_clear {N : Nat} {v0 : Nat} {σ : Sto} {res : Sto} (hF : F_X5_clear N v0 σ = some res) : Fr (Wr_X5_clear v0) σ res := by
  unfold F_X5_clear at hF
  obtain rfl := Option.some.inj hF
  exact (Fr_up Fr.rf (show Wr_X5_clear v0 _ _ from (by unfold Wr_X5_clear; omega)))
def Wr_X5_copy (v0 : Nat) (v1 : Nat) (a : Nat) (j : Int) : Prop := (a = v0 ∧ j = 3) ∨ ((v0 + 1 ≤ a ∧ a ≤ v0 + 3))
theorem fr_X5_copy {N : Nat} {v0 : Nat} {v1 : Nat} {σ : Sto} {res : Sto} (hF : F_X5_copy N v0 v1 σ = some res) : Fr (Wr_X5_copy v0 v1) σ res := by
  unfold F_X5_copy at hF
  obtain ⟨y1, hF⟩ := grd_some hF
  obtain ⟨y2, hF⟩ := grd_some hF
  obtain ⟨y3, hF⟩ := grd_some hF
  obtain rfl := Option.some.inj hF
  exact (Fr_up (Fr_cp (Fr_cp (Fr_cp Fr.rf (fun j => (show Wr_X5_copy v0 v1 _ _ from (Or.inr (by omega))))) (fun j => (show Wr_X5_copy v0 v1 _ _ from (Or.inr (by omega))))) (fun j => (show Wr_X5_copy v0 v1 _ _ from (Or.inr (by omega))))) (show Wr_X5_copy v0 v1 _ _ from (Or.inl (by omega))))
def Wr_X5_insert (v0 : Nat) (a : Nat) (j : Int) : Prop := (a = v0 ∧ j = 3) ∨ ((v0 + 1 ≤ a ∧ a ≤ v0 + 3))
theorem fr_X5_insert_J88 {N : Nat}   {v0 : Nat} {v1 : Int} {v2 : Int} {v3 : Int} {v4 : Int} {σ : Sto} {res : Sto} (hF : F_X5_insert_J88 N  v0 v1 v2 v3 v4 σ = some res) : Fr (Wr_X5_insert v0) σ res := by
  unfold F_X5_insert_J88 at hF
  obtain ⟨b4, hF⟩ := inb_some hF
  obtain rfl := Option.some.inj hF
  exact (Fr_up (Fr_up (Fr_up (Fr_up Fr.rf (show Wr_X5_insert v0 _ _ from (Or.inr (by omega)))) (show Wr_X5_insert v0 _ _ from (Or.inr (by omega)))) (show Wr_X5_insert v0 _ _ from (Or.inr (by omega)))) (show Wr_X5_insert v0 _ _ from (Or.inl (by omega))))
theorem fr_X5_insert_B28 {N : Nat}  {nx28 : (Int × Sto) → Option (Sto)} {v0 : Nat} {v1 : Int} {v2 : Int} {v3 : Int} {v4 : Int} {v5 : Int} {σ : Sto} {res : Sto} (hnx28 : ∀ q, nx28 q = some res → Fr (Wr_X5_insert v0) q.2 res) (hF : F_X5_insert_B28 N nx28 v0 v1 v2 v3 v4 v5 σ = some res) : Fr (Wr_X5_insert v0) σ res := by
  unfold F_X5_insert_B28 at hF
  by_cases c5 : v5 ≤ v1
  · have hF := (if_pos c5).symm.trans hF
    exact fr_X5_insert_J88  hF
  · have hF := (if_neg c5).symm.trans hF
    obtain ⟨b6, hF⟩ := inb_some hF
    obtain ⟨b7, hF⟩ := inb_some hF
    exact Fr_tr (Fr_up (Fr_up (Fr_up Fr.rf (show Wr_X5_insert v0 _ _ from (Or.inr (by omega)))) (show Wr_X5_insert v0 _ _ from (Or.inr (by omega)))) (show Wr_X5_insert v0 _ _ from (Or.inr (by omega)))) (hnx28 ((js v5 1), (upI (upI (upI σ (v0 + 1) v5 (σ.1 (v0 + 1) (js v5 1))) (v0 + 2) v5 ((upI σ (v0 + 1) v5 (σ.1 (v0 + 1) (js v5 1))).1 (v0 + 2) (js v5 1))) (v0 + 3) v5 ((upI (upI σ (v0 + 1) v5 (σ.1 (v0 + 1) (js v5 1))) (v0 + 2) v5 ((upI σ (v0 + 1) v5 (σ.1 (v0 + 1) (js v5 1))).1 (v0 + 2) (js v5 1))).1 (v0 + 3) (js v5 1)))) hF)
theorem fr_X5_insert {N : Nat} {v0 : Nat} {v1 : Int} {v2 : Int} {v3 : Int} {v4 : Int} {σ : Sto} {res : Sto} (hF : F_X5_insert N v0 v1 v2 v3 v4 σ = some res) : Fr (Wr_X5_insert v0) σ res := by
  unfold F_X5_insert at hF
  by_cases c1 : v1 < 0
  · have hF := (if_pos c1).symm.trans hF
    obtain rfl := Option.some.inj hF
    exact Fr.rf
  · have hF := (if_neg c1).symm.trans hF
    by_cases c2 : (σ.1 v0 3) < v1
    · have hF := (if_pos c2).symm.trans hF
      obtain rfl := Option.some.inj hF
      exact Fr.rf
    · have hF := (if_neg c2).symm.trans hF
      by_cases c3 : (σ.1 v0 3) < 30
      · have hF := (if_pos c3).symm.trans hF
        exact (loopK_ind (res := res) (P := fun (q : Int × Sto) => Fr (Wr_X5_insert v0) q.2 res) (fun nx q hn hF => fr_X5_insert_B28 hn hF) N ((σ.1 v0 3), σ) hF)
      · have hF := (if_neg c3).symm.trans hF
        obtain rfl := Option.some.inj hF
        exact Fr.rf
def Wr_X5_remove (v0 : Nat) (a : Nat) (j : Int) : Prop := (a = v0 ∧ j = 3) ∨ ((v0 + 1 ≤ a ∧ a ≤ v0 + 3))
theorem fr_X5_remove_B21 {N : Nat}  {nx21 : (Int × Sto) → Option (Sto)} {v0 : Nat} {v2 : Int} {σ : Sto} {res : Sto} (hnx21 : ∀ q, nx21 q = some res → Fr (Wr_X5_remove v0) q.2 res) (hF : F_X5_remove_B21 N nx21 v0 v2 σ = some res) : Fr (Wr_X5_remove v0) σ res := by
  unfold F_X5_remove_B21 at hF
  by_cases c3 : (σ.1 v0 3) ≤ v2
  · have hF := (if_pos c3).symm.trans hF
    obtain rfl := Option.some.inj hF
    exact Fr.rf
  · have hF := (if_neg c3).symm.trans hF
    obtain ⟨b4, hF⟩ := inb_some hF
    obtain ⟨b5, hF⟩ := inb_some hF
    exact Fr_tr (Fr_up (Fr_up (Fr_up Fr.rf (show Wr_X5_remove v0 _ _ from (Or.inr (by omega)))) (show Wr_X5_remove v0 _ _ from (Or.inr (by omega)))) (show Wr_X5_remove v0 _ _ from (Or.inr (by omega)))) (hnx21 ((ja v2 1), (upI (upI (upI σ (v0 + 1) v2 (σ.1 (v0 + 1) (ja v2 1))) (v0 + 2) v2 ((upI σ (v0 + 1) v2 (σ.1 (v0 + 1) (ja v2 1))).1 (v0 + 2) (ja v2 1))) (v0 + 3) v2 ((upI (upI σ (v0 + 1) v2 (σ.1 (v0 + 1) (ja v2 1))) (v0 + 2) v2 ((upI σ (v0 + 1) v2 (σ.1 (v0 + 1) (ja v2 1))).1 (v0 + 2) (ja v2 1))).1 (v0 + 3) (ja v2 1)))) hF)
theorem fr_X5_remove {N : Nat} {v0 : Nat} {v1 : Int} {σ : Sto} {res : Sto} (hF : F_X5_remove N v0 v1 σ = some res) : Fr (Wr_X5_remove v0) σ res := by
  unfold F_X5_remove at hF
  obtain ⟨q1, eq1, hF⟩ := bind_some' hF
  by_cases c2 : q1 = 0
  · have hF := (if_pos c2).symm.trans hF
    obtain rfl := Option.some.inj hF
    exact Fr.rf
  · have hF := (if_neg c2).symm.trans hF
    exact Fr_tr (Fr_up Fr.rf (show Wr_X5_remove v0 _ _ from (Or.inl (by omega)))) (loopK_ind (res := res) (P := fun (q : Int × Sto) => Fr (Wr_X5_remove v0) q.2 res) (fun nx q hn hF => fr_X5_remove_B21 hn hF) N (v1, (upI σ v0 3 (js (σ.1 v0 3) 1))) hF)
def Wr_X6_fill (v0 : Nat) (v1 : Nat) (v2 : Nat) (v4 : Nat) (a : Nat) (j : Int) : Prop := ((v0 + 1 ≤ a ∧ a ≤ v0 + 2))
theorem fr_X6_fill_J110 {N : Nat}  {nx3 : (Int × Sto) → Option (Sto)} {v0 : Nat} {v1 : Nat} {v2 : Nat} {v3 : Int} {v4 : Nat} {v5 : Int} {σ : Sto} {res : Sto} (hnx3 : ∀ q, nx3 q = some res → Fr (Wr_X6_fill v0 v1 v2 v4) q.2 res) (hF : F_X6_fill_J110 N nx3 v0 v1 v2 v3 v4 v5 σ = some res) : Fr (Wr_X6_fill v0 v1 v2 v4) σ res := by
  unfold F_X6_fill_J110 at hF
  exact Fr_tr Fr.rf (hnx3 ((ja v5 1), σ) hF)
theorem fr_X6_fill_J104 {N : Nat}  {nx3 : (Int × Sto) → Option (Sto)} {nx15 : (Int × Sto) → Option (Sto)} {v0 : Nat} {v1 : Nat} {v2 : Nat} {v3 : Int} {v4 : Nat} {v5 : Int} {v6 : Int} {σ : Sto} {res : Sto} (hnx3 : ∀ q, nx3 q = some res → Fr (Wr_X6_fill v0 v1 v2 v4) q.2 res) (hnx15 : ∀ q, nx15 q = some res → Fr (Wr_X6_fill v0 v1 v2 v4) q.2 res) (hF : F_X6_fill_J104 N nx3 nx15 v0 v1 v2 v3 v4 v5 v6 σ = some res) : Fr (Wr_X6_fill v0 v1 v2 v4) σ res := by
  unfold F_X6_fill_J104 at hF
  exact Fr_tr Fr.rf (hnx15 ((ja v6 1), σ) hF)
theorem fr_X6_fill_B15 {N : Nat}  {nx3 : (Int × Sto) → Option (Sto)} {nx15 : (Int × Sto) → Option (Sto)} {v0 : Nat} {v1 : Nat} {v2 : Nat} {v3 : Int} {v4 : Nat} {v5 : Int} {v6 : Int} {σ : Sto} {res : Sto} (hnx3 : ∀ q, nx3 q = some res → Fr (Wr_X6_fill v0 v1 v2 v4) q.2 res) (hnx15 : ∀ q, nx15 q = some res → Fr (Wr_X6_fill v0 v1 v2 v4) q.2 res) (hF : F_X6_fill_B15 N nx3 nx15 v0 v1 v2 v3 v4 v5 v6 σ = some res) : Fr (Wr_X6_fill v0 v1 v2 v4) σ res := by
  unfold F_X6_fill_B15 at hF
  by_cases c2 : (σ.1 v1 9) ≤ v6
  · have hF := (if_pos c2).symm.trans hF
    exact fr_X6_fill_J110 hnx3 hF
  · have hF := (if_neg c2).symm.trans hF
    obtain ⟨b3, hF⟩ := inb_some hF
    obtain ⟨b4, hF⟩ := inb_some hF
    by_cases c5 : 0 ≤ ((upI (upI σ (v0 + 1) (ja (jm v5 12) v6) (-1)) (v0 + 2) (ja (jm v5 12) v6) 0).1 (v1 + 7) v5)
    · have hF := (if_pos c5).symm.trans hF
      exact Fr_tr (Fr_up (Fr_up Fr.rf (show Wr_X6_fill v0 v1 v2 v4 _ _ from (by unfold Wr_X6_fill; omega))) (show Wr_X6_fill v0 v1 v2 v4 _ _ from (by unfold Wr_X6_fill; omega))) (fr_X6_fill_J104 hnx3 hnx15 hF)
    · have hF := (if_neg c5).symm.trans hF
      obtain ⟨b6, hF⟩ := inb_some hF
      by_cases c7 : ((upI (upI σ (v0 + 1) (ja (jm v5 12) v6) (-1)) (v0 + 2) (ja (jm v5 12) v6) 0).1 (v1 + 7) v6) ≤ 0
      · have hF := (if_pos c7).symm.trans hF
        exact Fr_tr (Fr_up (Fr_up Fr.rf (show Wr_X6_fill v0 v1 v2 v4 _ _ from (by unfold Wr_X6_fill; omega))) (show Wr_X6_fill v0 v1 v2 v4 _ _ from (by unfold Wr_X6_fill; omega))) (fr_X6_fill_J104 hnx3 hnx15 hF)
      · have hF := (if_neg c7).symm.trans hF
        obtain ⟨q8, eq8, hF⟩ := bind_some' hF
        obtain ⟨q9, eq9, hF⟩ := bind_some' hF
        exact Fr_tr (Fr_up (Fr_up (Fr_up (Fr_up Fr.rf (show Wr_X6_fill v0 v1 v2 v4 _ _ from (by unfold Wr_X6_fill; omega))) (show Wr_X6_fill v0 v1 v2 v4 _ _ from (by unfold Wr_X6_fill; omega))) (show Wr_X6_fill v0 v1 v2 v4 _ _ from (by unfold Wr_X6_fill; omega))) (show Wr_X6_fill v0 v1 v2 v4 _ _ from (by unfold Wr_X6_fill; omega))) (fr_X6_fill_J104 hnx3 hnx15 hF)
theorem fr_X6_fill_B3 {N : Nat}  {nx3 : (Int × Sto) → Option (Sto)} {v0 : Nat} {v1 : Nat} {v2 : Nat} {v3 : Int} {v4 : Nat} {v5 : Int} {σ : Sto} {res : Sto} (hnx3 : ∀ q, nx3 q = some res → Fr (Wr_X6_fill v0 v1 v2 v4) q.2 res) (hF : F_X6_fill_B3 N nx3 v0 v1 v2 v3 v4 v5 σ = some res) : Fr (Wr_X6_fill v0 v1 v2 v4) σ res := by
  unfold F_X6_fill_B3 at hF
  by_cases c1 : (σ.1 v1 9) ≤ v5
  · have hF := (if_pos c1).symm.trans hF
    obtain rfl := Option.some.inj hF
    exact Fr.rf
  · have hF := (if_neg c1).symm.trans hF
    exact (loopK_ind (res := res) (P := fun (q : Int × Sto) => Fr (Wr_X6_fill v0 v1 v2 v4) q.2 res) (fun nx q hn hF => fr_X6_fill_B15 hnx3 hn hF) N (0, σ) hF)
theorem fr_X6_fill {N : Nat} {v0 : Nat} {v1 : Nat} {v2 : Nat} {v3 : Int} {v4 : Nat} {σ : Sto} {res : Sto} (hF : F_X6_fill N v0 v1 v2 v3 v4 σ = some res) : Fr (Wr_X6_fill v0 v1 v2 v4) σ res := by
  unfold F_X6_fill at hF
  exact (loopK_ind (res := res) (P := fun (q : Int × Sto) => Fr (Wr_X6_fill v0 v1 v2 v4) q.2 res) (fun nx q hn hF => fr_X6_fill_B3 hn hF) N (0, σ) hF)
def Wr_X7_add (v0 : Nat) (a : Nat) (j : Int) : Prop := (a = v0 ∧ j = 4) ∨ ((v0 + 1 ≤ a ∧ a ≤ v0 + 4))
theorem fr_X7_add {N : Nat} {v0 : Nat} {v1 : Int} {v2 : Int} {v3 : Int} {v4 : Int} {σ : Sto} {res : Sto} (hF : F_X7_add N v0 v1 v2 v3 v4 σ = some res) : Fr (Wr_X7_add v0) σ res := by
  unfold F_X7_add at hF
  by_cases c1 : 24 ≤ (σ.1 v0 4)
  · have hF := (if_pos c1).symm.trans hF
    obtain rfl := Option.some.inj hF
    exact Fr.rf
  · have hF := (if_neg c1).symm.trans hF
    obtain ⟨b2, hF⟩ := inb_some hF
    obtain ⟨b3, hF⟩ := inb_some hF
    obtain ⟨b4, hF⟩ := inb_some hF
    obtain ⟨b5, hF⟩ := inb_some hF
    obtain rfl := Option.some.inj hF
    exact (Fr_up (Fr_up (Fr_up (Fr_up (Fr_up Fr.rf (show Wr_X7_add v0 _ _ from (Or.inr (by omega)))) (show Wr_X7_add v0 _ _ from (Or.inr (by omega)))) (show Wr_X7_add v0 _ _ from (Or.inr (by omega)))) (show Wr_X7_add v0 _ _ from (Or.inr (by omega)))) (show Wr_X7_add v0 _ _ from (Or.inl (by omega))))
def Wr_X7_dropLast (v0 : Nat) (a : Nat) (j : Int) : Prop := (a = v0 ∧ j = 4)
theorem fr_X7_dropLast {N : Nat} {v0 : Nat} {σ : Sto} {res : Sto} (hF : F_X7_dropLast N v0 σ = some res) : Fr (Wr_X7_dropLast v0) σ res := by
  unfold F_X7_dropLast at hF
  obtain rfl := Option.some.inj hF
  exact (Fr_up Fr.rf (show Wr_X7_dropLast v0 _ _ from (by unfold Wr_X7_dropLast; omega)))
def Wr_X7_copy (v0 : Nat) (v1 : Nat) (a : Nat) (j : Int) : Prop := (a = v0 ∧ j = 4) ∨ ((v0 + 1 ≤ a ∧ a ≤ v0 + 4))
theorem fr_X7_copy {N : Nat} {v0 : Nat} {v1 : Nat} {σ : Sto} {res : Sto} (hF : F_X7_copy N v0 v1 σ = some res) : Fr (Wr_X7_copy v0 v1) σ res := by
  unfold F_X7_copy at hF
  obtain ⟨y1, hF⟩ := grd_some hF
  obtain ⟨y2, hF⟩ := grd_some hF
  obtain ⟨y3, hF⟩ := grd_some hF
  obtain ⟨y4, hF⟩ := grd_some hF
  obtain rfl := Option.some.inj hF
  exact (Fr_up (Fr_cp (Fr_cp (Fr_cp (Fr_cp Fr.rf (fun j => (show Wr_X7_copy v0 v1 _ _ from (Or.inr (by omega))))) (fun j => (show Wr_X7_copy v0 v1 _ _ from (Or.inr (by omega))))) (fun j => (show Wr_X7_copy v0 v1 _ _ from (Or.inr (by omega))))) (fun j => (show Wr_X7_copy v0 v1 _ _ from (Or.inr (by omega))))) (show Wr_X7_copy v0 v1 _ _ from (Or.inl (by omega))))
def Wr_X8_put (a : Nat) (j : Int) : Prop := (a = 1 ∧ j = 1) ∨ (a = 2)
theorem fr_X8_put_J40 {N : Nat}  {nx3 : (Int × Sto) → Option (Sto)} {v1 : Int} {v2 : Int} {σ : Sto} {res : Sto} (hnx3 : ∀ q, nx3 q = some res → Fr (Wr_X8_put) q.2 res) (hF : F_X8_put_J40 N nx3 v1 v2 σ = some res) : Fr (Wr_X8_put) σ res := by
  unfold F_X8_put_J40 at hF
  exact Fr_tr Fr.rf (hnx3 ((js v2 8), σ) hF)
theorem fr_X8_put_B3 {N : Nat}  {nx3 : (Int × Sto) → Option (Sto)} {v1 : Int} {v2 : Int} {σ : Sto} {res : Sto} (hnx3 : ∀ q, nx3 q = some res → Fr (Wr_X8_put) q.2 res) (hF : F_X8_put_B3 N nx3 v1 v2 σ = some res) : Fr (Wr_X8_put) σ res := by
  unfold F_X8_put_B3 at hF
  by_cases c1 : v2 < 0
  · have hF := (if_pos c1).symm.trans hF
    obtain rfl := Option.some.inj hF
    exact Fr.rf
  · have hF := (if_neg c1).symm.trans hF
    by_cases c2 : 700 ≤ (σ.1 1 1)
    · have hF := (if_pos c2).symm.trans hF
      exact fr_X8_put_J40 hnx3 hF
    · have hF := (if_neg c2).symm.trans hF
      obtain ⟨b3, hF⟩ := inb_some hF
      exact Fr_tr (Fr_up (Fr_up Fr.rf (show Wr_X8_put _ _ from (Or.inr (by omega)))) (show Wr_X8_put _ _ from (Or.inl (by omega)))) (fr_X8_put_J40 hnx3 hF)
theorem fr_X8_put {N : Nat} {v1 : Int} {σ : Sto} {res : Sto} (hF : F_X8_put N v1 σ = some res) : Fr (Wr_X8_put) σ res := by
  unfold F_X8_put at hF
  exact (loopK_ind (res := res) (P := fun (q : Int × Sto) => Fr (Wr_X8_put) q.2 res) (fun nx q hn hF => fr_X8_put_B3 hn hF) N (24, σ) hF)
def Wr_X8_readWord (a : Nat) (j : Int) : Prop := (a = 1 ∧ j = 3) ∨ (a = 1 ∧ j = 4) ∨ (a = 1 ∧ j = 6)
theorem fr_X8_readWord_J125 {N : Nat}  {nx90 : (Int × Sto) → Option (Sto)} {v2 : Int} {v3 : Int} {σ : Sto} {res : Sto} (hnx90 : ∀ q, nx90 q = some res → Fr (Wr_X8_readWord) q.2 res) (hF : F_X8_readWord_J125 N nx90 v2 v3 σ = some res) : Fr (Wr_X8_readWord) σ res := by
  unfold F_X8_readWord_J125 at hF
  exact Fr_tr Fr.rf (hnx90 ((ja v3 1), σ) hF)
theorem fr_X8_readWord_B90 {N : Nat}  {nx90 : (Int × Sto) → Option (Sto)} {v2 : Int} {v3 : Int} {σ : Sto} {res : Sto} (hnx90 : ∀ q, nx90 q = some res → Fr (Wr_X8_readWord) q.2 res) (hF : F_X8_readWord_B90 N nx90 v2 v3 σ = some res) : Fr (Wr_X8_readWord) σ res := by
  unfold F_X8_readWord_B90 at hF
  by_cases c1 : (σ.1 1 4) = 2
  · have hF := (if_pos c1).symm.trans hF
    by_cases c2 : 7 ≤ v3
    · have hF := (if_pos c2).symm.trans hF
      obtain rfl := Option.some.inj hF
      exact Fr.rf
    · have hF := (if_neg c2).symm.trans hF
      obtain ⟨b3, hF⟩ := inb_some hF
      by_cases c4 : (lwd v3) = v2
      · have hF := (if_pos c4).symm.trans hF
        exact Fr_tr (Fr_up (Fr_up Fr.rf (show Wr_X8_readWord _ _ from (Or.inr (Or.inl (by omega))))) (show Wr_X8_readWord _ _ from (Or.inr (Or.inr (by omega))))) (fr_X8_readWord_J125 hnx90 hF)
      · have hF := (if_neg c4).symm.trans hF
        exact fr_X8_readWord_J125 hnx90 hF
  · have hF := (if_neg c1).symm.trans hF
    obtain rfl := Option.some.inj hF
    exact Fr.rf
theorem fr_X8_readWord_J80 {N : Nat}   {v2 : Int} {t1 : Int} {σ : Sto} {res : Sto} (hF : F_X8_readWord_J80 N  v2 t1 σ = some res) : Fr (Wr_X8_readWord) σ res := by
  unfold F_X8_readWord_J80 at hF
  exact Fr_tr (Fr_up (Fr_up Fr.rf (show Wr_X8_readWord _ _ from (Or.inr (Or.inl (by omega))))) (show Wr_X8_readWord _ _ from (Or.inr (Or.inr (by omega))))) (loopK_ind (res := res) (P := fun (q : Int × Sto) => Fr (Wr_X8_readWord) q.2 res) (fun nx q hn hF => fr_X8_readWord_B90 hn hF) N (0, (upI (upI σ 1 4 t1) 1 6 v2)) hF)
theorem fr_X8_readWord_J67 {N : Nat}   {v1 : Int} {v2 : Int} {σ : Sto} {res : Sto} (hF : F_X8_readWord_J67 N  v1 v2 σ = some res) : Fr (Wr_X8_readWord) σ res := by
  unfold F_X8_readWord_J67 at hF
  by_cases c5 : v1 ≤ 6
  · have hF := (if_pos c5).symm.trans hF
    exact fr_X8_readWord_J80  hF
  · have hF := (if_neg c5).symm.trans hF
    exact fr_X8_readWord_J80  hF
theorem fr_X8_readWord_J48 {N : Nat}  {nx6 : (Int × Int × Int × Sto) → Option (Sto)} {v1 : Int} {v2 : Int} {v3 : Int} {σ : Sto} {res : Sto} (hnx6 : ∀ q, nx6 q = some res → Fr (Wr_X8_readWord) q.2.2.2 res) (hF : F_X8_readWord_J48 N nx6 v1 v2 v3 σ = some res) : Fr (Wr_X8_readWord) σ res := by
  unfold F_X8_readWord_J48 at hF
  exact Fr_tr (Fr_up Fr.rf (show Wr_X8_readWord _ _ from (Or.inl (by omega)))) (hnx6 ((ja v1 1), v2, (ja v3 1), (upI σ 1 3 (ja (σ.1 1 3) 1))) hF)
theorem fr_X8_readWord_B6 {N : Nat}  {nx6 : (Int × Int × Int × Sto) → Option (Sto)} {v1 : Int} {v2 : Int} {v3 : Int} {σ : Sto} {res : Sto} (hnx6 : ∀ q, nx6 q = some res → Fr (Wr_X8_readWord) q.2.2.2 res) (hF : F_X8_readWord_B6 N nx6 v1 v2 v3 σ = some res) : Fr (Wr_X8_readWord) σ res := by
  unfold F_X8_readWord_B6 at hF
  by_cases c6 : 700 ≤ v3
  · have hF := (if_pos c6).symm.trans hF
    exact fr_X8_readWord_J67  hF
  · have hF := (if_neg c6).symm.trans hF
    obtain ⟨q7, eq7, hF⟩ := bind_some' hF
    obtain ⟨q8, eq8, hF⟩ := bind_some' hF
    by_cases c9 : q8 = 0
    · have hF := (if_pos c9).symm.trans hF
      exact fr_X8_readWord_J67  hF
    · have hF := (if_neg c9).symm.trans hF
      by_cases c10 : 6 ≤ v1
      · have hF := (if_pos c10).symm.trans hF
        exact fr_X8_readWord_J48 hnx6 hF
      · have hF := (if_neg c10).symm.trans hF
        obtain ⟨q11, eq11, hF⟩ := bind_some' hF
        exact fr_X8_readWord_J48 hnx6 hF
theorem fr_X8_readWord {N : Nat}  {σ : Sto} {res : Sto} (hF : F_X8_readWord N  σ = some res) : Fr (Wr_X8_readWord) σ res := by
  unfold F_X8_readWord at hF
  exact (loopK_ind (res := res) (P := fun (q : Int × Int × Int × Sto) => Fr (Wr_X8_readWord) q.2.2.2 res) (fun nx q hn hF => fr_X8_readWord_B6 hn hF) N (0, 0, 0, σ) hF)
def Wr_X8_readNumber (a : Nat) (j : Int) : Prop := (a = 1 ∧ j = 3) ∨ (a = 1 ∧ j = 4) ∨ (a = 1 ∧ j = 6)
theorem fr_X8_readNumber_J114 {N : Nat}   {v1 : Int} {v2 : Int} {σ : Sto} {res : Sto} (hF : F_X8_readNumber_J114 N  v1 v2 σ = some res) : Fr (Wr_X8_readNumber) σ res := by
  unfold F_X8_readNumber_J114 at hF
  by_cases c1 : v1 = 0
  · have hF := (if_pos c1).symm.trans hF
    obtain rfl := Option.some.inj hF
    exact (Fr_up Fr.rf (show Wr_X8_readNumber _ _ from (Or.inr (Or.inr (by omega)))))
  · have hF := (if_neg c1).symm.trans hF
    obtain rfl := Option.some.inj hF
    exact (Fr_up Fr.rf (show Wr_X8_readNumber _ _ from (Or.inr (Or.inr (by omega)))))
theorem fr_X8_readNumber_J98 {N : Nat}  {nx62 : (Int × Int × Sto) → Option (Sto)} {v1 : Int} {v2 : Int} {v3 : Int} {σ : Sto} {res : Sto} (hnx62 : ∀ q, nx62 q = some res → Fr (Wr_X8_readNumber) q.2.2 res) (hF : F_X8_readNumber_J98 N nx62 v1 v2 v3 σ = some res) : Fr (Wr_X8_readNumber) σ res := by
  unfold F_X8_readNumber_J98 at hF
  exact Fr_tr (Fr_up Fr.rf (show Wr_X8_readNumber _ _ from (Or.inl (by omega)))) (hnx62 (v2, (ja v3 1), (upI σ 1 3 (ja (σ.1 1 3) 1))) hF)
theorem fr_X8_readNumber_B62 {N : Nat}  {nx62 : (Int × Int × Sto) → Option (Sto)} {v1 : Int} {v2 : Int} {v3 : Int} {σ : Sto} {res : Sto} (hnx62 : ∀ q, nx62 q = some res → Fr (Wr_X8_readNumber) q.2.2 res) (hF : F_X8_readNumber_B62 N nx62 v1 v2 v3 σ = some res) : Fr (Wr_X8_readNumber) σ res := by
  unfold F_X8_readNumber_B62 at hF
  by_cases c2 : 700 ≤ v3
  · have hF := (if_pos c2).symm.trans hF
    exact fr_X8_readNumber_J114  hF
  · have hF := (if_neg c2).symm.trans hF
    obtain ⟨q3, eq3, hF⟩ := bind_some' hF
    obtain ⟨q4, eq4, hF⟩ := bind_some' hF
    by_cases c5 : q4 = 0
    · have hF := (if_pos c5).symm.trans hF
      exact fr_X8_readNumber_J114  hF
    · have hF := (if_neg c5).symm.trans hF
      by_cases c6 : 1000000 ≤ v2
      · have hF := (if_pos c6).symm.trans hF
        exact fr_X8_readNumber_J98 hnx62 hF
      · have hF := (if_neg c6).symm.trans hF
        obtain ⟨q7, eq7, hF⟩ := bind_some' hF
        exact fr_X8_readNumber_J98 hnx62 hF
theorem fr_X8_readNumber_J58 {N : Nat}   {v1 : Int} {σ : Sto} {res : Sto} (hF : F_X8_readNumber_J58 N  v1 σ = some res) : Fr (Wr_X8_readNumber) σ res := by
  unfold F_X8_readNumber_J58 at hF
  exact (loopK_ind (res := res) (P := fun (q : Int × Int × Sto) => Fr (Wr_X8_readNumber) q.2.2 res) (fun nx q hn hF => fr_X8_readNumber_B62 hn hF) N (0, 0, σ) hF)
theorem fr_X8_readNumber_J39 {N : Nat}   {v1 : Int} {t1 : Int} {σ : Sto} {res : Sto} (hF : F_X8_readNumber_J39 N  v1 t1 σ = some res) : Fr (Wr_X8_readNumber) σ res := by
  unfold F_X8_readNumber_J39 at hF
  obtain ⟨q8, eq8, hF⟩ := bind_some' hF
  obtain ⟨q9, eq9, hF⟩ := bind_some' hF
  by_cases c10 : q9 = 0
  · have hF := (if_pos c10).symm.trans hF
    exact Fr_tr (Fr_up (Fr_up Fr.rf (show Wr_X8_readNumber _ _ from (Or.inr (Or.inl (by omega))))) (show Wr_X8_readNumber _ _ from (Or.inr (Or.inl (by omega))))) (fr_X8_readNumber_J58  hF)
  · have hF := (if_neg c10).symm.trans hF
    exact Fr_tr (Fr_up Fr.rf (show Wr_X8_readNumber _ _ from (Or.inr (Or.inl (by omega))))) (fr_X8_readNumber_J58  hF)
theorem fr_X8_readNumber_J29 {N : Nat}   {v1 : Int} {σ : Sto} {res : Sto} (hF : F_X8_readNumber_J29 N  v1 σ = some res) : Fr (Wr_X8_readNumber) σ res := by
  unfold F_X8_readNumber_J29 at hF
  by_cases c11 : v1 = 0
  · have hF := (if_pos c11).symm.trans hF
    exact fr_X8_readNumber_J39  hF
  · have hF := (if_neg c11).symm.trans hF
    exact fr_X8_readNumber_J39  hF
theorem fr_X8_readNumber_J14 {N : Nat}   {t0 : Int} {σ : Sto} {res : Sto} (hF : F_X8_readNumber_J14 N  t0 σ = some res) : Fr (Wr_X8_readNumber) σ res := by
  unfold F_X8_readNumber_J14 at hF
  by_cases c12 : t0 = 0
  · have hF := (if_pos c12).symm.trans hF
    exact fr_X8_readNumber_J29  hF
  · have hF := (if_neg c12).symm.trans hF
    exact Fr_tr (Fr_up Fr.rf (show Wr_X8_readNumber _ _ from (Or.inl (by omega)))) (fr_X8_readNumber_J29  hF)
theorem fr_X8_readNumber {N : Nat}  {σ : Sto} {res : Sto} (hF : F_X8_readNumber N  σ = some res) : Fr (Wr_X8_readNumber) σ res := by
  unfold F_X8_readNumber at hF
  obtain ⟨q13, eq13, hF⟩ := bind_some' hF
  by_cases c14 : q13 = 45
  · have hF := (if_pos c14).symm.trans hF
    exact fr_X8_readNumber_J14  hF
  · have hF := (if_neg c14).symm.trans hF
    exact fr_X8_readNumber_J14  hF
def Wr_X8_next (a : Nat) (j : Int) : Prop := (a = 1 ∧ j = 3) ∨ (a = 1 ∧ j = 4) ∨ (a = 1 ∧ j = 5) ∨ (a = 1 ∧ j = 6)
theorem fr_X8_next_J94 {N : Nat}    {σ : Sto} {res : Sto} (hF : F_X8_next_J94 N   σ = some res) : Fr (Wr_X8_next) σ res := by
  unfold F_X8_next_J94 at hF
  obtain ⟨q5, eq5, hF⟩ := bind_some' hF
  obtain rfl := Option.some.inj hF
  exact (Fr_tr Fr.rf (Fr_mono (fr_X8_readNumber (res := q5) eq5) (fun a j h => by
      unfold Wr_X8_readNumber at h
      unfold Wr_X8_next
      rcases h with h | h | h
      · exact (Or.inl (by omega))
      · exact (Or.inr (Or.inl (by omega)))
      · exact (Or.inr (Or.inr (Or.inr (by omega)))))))
theorem fr_X8_next_J114 {N : Nat}   {t1 : Int} {σ : Sto} {res : Sto} (hF : F_X8_next_J114 N  t1 σ = some res) : Fr (Wr_X8_next) σ res := by
  unfold F_X8_next_J114 at hF
  obtain rfl := Option.some.inj hF
  exact (Fr_up (Fr_up Fr.rf (show Wr_X8_next _ _ from (Or.inr (Or.inl (by omega))))) (show Wr_X8_next _ _ from (Or.inl (by omega))))
theorem fr_X8_next_J35 {N : Nat}    {σ : Sto} {res : Sto} (hF : F_X8_next_J35 N   σ = some res) : Fr (Wr_X8_next) σ res := by
  unfold F_X8_next_J35 at hF
  obtain ⟨q1, eq1, hF⟩ := bind_some' hF
  by_cases c2 : ((upI σ 1 5 (σ.1 1 3)).1 1 3) < ((upI σ 1 5 (σ.1 1 3)).1 1 2)
  · have hF := (if_pos c2).symm.trans hF
    obtain ⟨q3, eq3, hF⟩ := bind_some' hF
    by_cases c4 : q3 = 0
    · have hF := (if_pos c4).symm.trans hF
      obtain ⟨q6, eq6, hF⟩ := bind_some' hF
      by_cases c7 : q6 = 0
      · have hF := (if_pos c7).symm.trans hF
        by_cases c8 : q1 = 45
        · have hF := (if_pos c8).symm.trans hF
          exact Fr_tr (Fr_up Fr.rf (show Wr_X8_next _ _ from (Or.inr (Or.inr (Or.inl (by omega)))))) (fr_X8_next_J94  hF)
        · have hF := (if_neg c8).symm.trans hF
          by_cases c9 : q1 = 59
          · have hF := (if_pos c9).symm.trans hF
            exact Fr_tr (Fr_up Fr.rf (show Wr_X8_next _ _ from (Or.inr (Or.inr (Or.inl (by omega)))))) (fr_X8_next_J114  hF)
          · have hF := (if_neg c9).symm.trans hF
            exact Fr_tr (Fr_up Fr.rf (show Wr_X8_next _ _ from (Or.inr (Or.inr (Or.inl (by omega)))))) (fr_X8_next_J114  hF)
      · have hF := (if_neg c7).symm.trans hF
        exact Fr_tr (Fr_up Fr.rf (show Wr_X8_next _ _ from (Or.inr (Or.inr (Or.inl (by omega)))))) (fr_X8_next_J94  hF)
    · have hF := (if_neg c4).symm.trans hF
      obtain ⟨q10, eq10, hF⟩ := bind_some' hF
      obtain rfl := Option.some.inj hF
      exact (Fr_tr (Fr_up Fr.rf (show Wr_X8_next _ _ from (Or.inr (Or.inr (Or.inl (by omega)))))) (Fr_mono (fr_X8_readWord (res := q10) eq10) (fun a j h => by
      unfold Wr_X8_readWord at h
      unfold Wr_X8_next
      rcases h with h | h | h
      · exact (Or.inl (by omega))
      · exact (Or.inr (Or.inl (by omega)))
      · exact (Or.inr (Or.inr (Or.inr (by omega)))))))
  · have hF := (if_neg c2).symm.trans hF
    obtain rfl := Option.some.inj hF
    exact (Fr_up (Fr_up Fr.rf (show Wr_X8_next _ _ from (Or.inr (Or.inr (Or.inl (by omega)))))) (show Wr_X8_next _ _ from (Or.inr (Or.inl (by omega)))))
theorem fr_X8_next_B2 {N : Nat}  {nx2 : (Int × Sto) → Option (Sto)} {v1 : Int} {σ : Sto} {res : Sto} (hnx2 : ∀ q, nx2 q = some res → Fr (Wr_X8_next) q.2 res) (hF : F_X8_next_B2 N nx2 v1 σ = some res) : Fr (Wr_X8_next) σ res := by
  unfold F_X8_next_B2 at hF
  by_cases c11 : 700 ≤ v1
  · have hF := (if_pos c11).symm.trans hF
    exact fr_X8_next_J35  hF
  · have hF := (if_neg c11).symm.trans hF
    obtain ⟨q12, eq12, hF⟩ := bind_some' hF
    obtain ⟨q13, eq13, hF⟩ := bind_some' hF
    by_cases c14 : q13 = 0
    · have hF := (if_pos c14).symm.trans hF
      exact fr_X8_next_J35  hF
    · have hF := (if_neg c14).symm.trans hF
      exact Fr_tr (Fr_up Fr.rf (show Wr_X8_next _ _ from (Or.inl (by omega)))) (hnx2 ((ja v1 1), (upI σ 1 3 (ja (σ.1 1 3) 1))) hF)
theorem fr_X8_next {N : Nat}  {σ : Sto} {res : Sto} (hF : F_X8_next N  σ = some res) : Fr (Wr_X8_next) σ res := by
  unfold F_X8_next at hF
  exact (loopK_ind (res := res) (P := fun (q : Int × Sto) => Fr (Wr_X8_next) q.2 res) (fun nx q hn hF => fr_X8_next_B2 hn hF) N (0, σ) hF)
def Wr_X8_fail (a : Nat) (j : Int) : Prop := (a = 1 ∧ j = 10) ∨ (a = 1 ∧ j = 9)
theorem fr_X8_fail {N : Nat} {v1 : Int} {σ : Sto} {res : Int × Sto} (hF : F_X8_fail N v1 σ = some res) : Fr (Wr_X8_fail) σ res.2 := by
  unfold F_X8_fail at hF
  obtain rfl := Option.some.inj hF
  exact (Fr_up (Fr_up Fr.rf (show Wr_X8_fail _ _ from (Or.inr (by omega)))) (show Wr_X8_fail _ _ from (Or.inl (by omega))))
def Wr_X8_expect (a : Nat) (j : Int) : Prop := (a = 1 ∧ j = 10) ∨ (a = 1 ∧ j = 3) ∨ (a = 1 ∧ j = 4) ∨ (a = 1 ∧ j = 5) ∨ (a = 1 ∧ j = 6) ∨ (a = 1 ∧ j = 9)
theorem fr_X8_expect_J20 {N : Nat}    {σ : Sto} {res : Int × Sto} (hF : F_X8_expect_J20 N   σ = some res) : Fr (Wr_X8_expect) σ res.2 := by
  unfold F_X8_expect_J20 at hF
  obtain rfl := Option.some.inj hF
  exact Fr.rf
theorem fr_X8_expect {N : Nat} {v1 : Int} {σ : Sto} {res : Int × Sto} (hF : F_X8_expect N v1 σ = some res) : Fr (Wr_X8_expect) σ res.2 := by
  unfold F_X8_expect at hF
  obtain ⟨q1, eq1, hF⟩ := bind_some' hF
  by_cases c2 : (q1.1 1 4) = v1
  · have hF := (if_pos c2).symm.trans hF
    exact Fr_tr (Fr_tr Fr.rf (Fr_mono (fr_X8_next (res := q1) eq1) (fun a j h => by
      unfold Wr_X8_next at h
      unfold Wr_X8_expect
      rcases h with h | h | h | h
      · exact (Or.inr (Or.inl (by omega)))
      · exact (Or.inr (Or.inr (Or.inl (by omega))))
      · exact (Or.inr (Or.inr (Or.inr (Or.inl (by omega)))))
      · exact (Or.inr (Or.inr (Or.inr (Or.inr (Or.inl (by omega))))))))) (fr_X8_expect_J20  hF)
  · have hF := (if_neg c2).symm.trans hF
    obtain ⟨q3, eq3, hF⟩ := bind_some' hF
    by_cases c4 : q3.1 = 0
    · have hF := (if_pos c4).symm.trans hF
      obtain rfl := Option.some.inj hF
      exact (Fr_tr (Fr_tr Fr.rf (Fr_mono (fr_X8_next (res := q1) eq1) (fun a j h => by
      unfold Wr_X8_next at h
      unfold Wr_X8_expect
      rcases h with h | h | h | h
      · exact (Or.inr (Or.inl (by omega)))
      · exact (Or.inr (Or.inr (Or.inl (by omega))))
      · exact (Or.inr (Or.inr (Or.inr (Or.inl (by omega)))))
      · exact (Or.inr (Or.inr (Or.inr (Or.inr (Or.inl (by omega))))))))) (Fr_mono (fr_X8_fail (res := q3) eq3) (fun a j h => by
      unfold Wr_X8_fail at h
      unfold Wr_X8_expect
      rcases h with h | h
      · exact (Or.inl (by omega))
      · exact (Or.inr (Or.inr (Or.inr (Or.inr (Or.inr (by omega)))))))))
    · have hF := (if_neg c4).symm.trans hF
      exact Fr_tr (Fr_tr (Fr_tr Fr.rf (Fr_mono (fr_X8_next (res := q1) eq1) (fun a j h => by
      unfold Wr_X8_next at h
      unfold Wr_X8_expect
      rcases h with h | h | h | h
      · exact (Or.inr (Or.inl (by omega)))
      · exact (Or.inr (Or.inr (Or.inl (by omega))))
      · exact (Or.inr (Or.inr (Or.inr (Or.inl (by omega)))))
      · exact (Or.inr (Or.inr (Or.inr (Or.inr (Or.inl (by omega))))))))) (Fr_mono (fr_X8_fail (res := q3) eq3) (fun a j h => by
      unfold Wr_X8_fail at h
      unfold Wr_X8_expect
      rcases h with h | h
      · exact (Or.inl (by omega))
      · exact (Or.inr (Or.inr (Or.inr (Or.inr (Or.inr (by omega))))))))) (fr_X8_expect_J20  hF)
def Wr_X8_expectNumber (a : Nat) (j : Int) : Prop := (a = 1 ∧ j = 10) ∨ (a = 1 ∧ j = 3) ∨ (a = 1 ∧ j = 4) ∨ (a = 1 ∧ j = 5) ∨ (a = 1 ∧ j = 6) ∨ (a = 1 ∧ j = 9)
theorem fr_X8_expectNumber_J54 {N : Nat}    {σ : Sto} {res : Int × Sto} (hF : F_X8_expectNumber_J54 N   σ = some res) : Fr (Wr_X8_expectNumber) σ res.2 := by
  unfold F_X8_expectNumber_J54 at hF
  obtain rfl := Option.some.inj hF
  exact Fr.rf
theorem fr_X8_expectNumber_J46 {N : Nat}    {σ : Sto} {res : Int × Sto} (hF : F_X8_expectNumber_J46 N   σ = some res) : Fr (Wr_X8_expectNumber) σ res.2 := by
  unfold F_X8_expectNumber_J46 at hF
  obtain ⟨q1, eq1, hF⟩ := bind_some' hF
  by_cases c2 : q1.1 = 0
  · have hF := (if_pos c2).symm.trans hF
    obtain rfl := Option.some.inj hF
    exact (Fr_tr Fr.rf (Fr_mono (fr_X8_fail (res := q1) eq1) (fun a j h => by
      unfold Wr_X8_fail at h
      unfold Wr_X8_expectNumber
      rcases h with h | h
      · exact (Or.inl (by omega))
      · exact (Or.inr (Or.inr (Or.inr (Or.inr (Or.inr (by omega)))))))))
  · have hF := (if_neg c2).symm.trans hF
    exact Fr_tr (Fr_tr Fr.rf (Fr_mono (fr_X8_fail (res := q1) eq1) (fun a j h => by
      unfold Wr_X8_fail at h
      unfold Wr_X8_expectNumber
      rcases h with h | h
      · exact (Or.inl (by omega))
      · exact (Or.inr (Or.inr (Or.inr (Or.inr (Or.inr (by omega))))))))) (fr_X8_expectNumber_J54  hF)
theorem fr_X8_expectNumber_J30 {N : Nat}   {v1 : Int} {v2 : Int} {σ : Sto} {res : Int × Sto} (hF : F_X8_expectNumber_J30 N  v1 v2 σ = some res) : Fr (Wr_X8_expectNumber) σ res.2 := by
  unfold F_X8_expectNumber_J30 at hF
  by_cases c3 : (σ.1 1 6) < v1
  · have hF := (if_pos c3).symm.trans hF
    exact fr_X8_expectNumber_J46  hF
  · have hF := (if_neg c3).symm.trans hF
    by_cases c4 : (σ.1 1 6) ≤ v2
    · have hF := (if_pos c4).symm.trans hF
      exact fr_X8_expectNumber_J54  hF
    · have hF := (if_neg c4).symm.trans hF
      exact fr_X8_expectNumber_J46  hF
theorem fr_X8_expectNumber_J24 {N : Nat}    {σ : Sto} {res : Int × Sto} (hF : F_X8_expectNumber_J24 N   σ = some res) : Fr (Wr_X8_expectNumber) σ res.2 := by
  unfold F_X8_expectNumber_J24 at hF
  obtain ⟨q7, eq7, hF⟩ := bind_some' hF
  obtain rfl := Option.some.inj hF
  exact (Fr_tr Fr.rf (Fr_mono (fr_X8_fail (res := q7) eq7) (fun a j h => by
      unfold Wr_X8_fail at h
      unfold Wr_X8_expectNumber
      rcases h with h | h
      · exact (Or.inl (by omega))
      · exact (Or.inr (Or.inr (Or.inr (Or.inr (Or.inr (by omega)))))))))
theorem fr_X8_expectNumber {N : Nat} {v1 : Int} {v2 : Int} {σ : Sto} {res : Int × Sto} (hF : F_X8_expectNumber N v1 v2 σ = some res) : Fr (Wr_X8_expectNumber) σ res.2 := by
  unfold F_X8_expectNumber at hF
  obtain ⟨q5, eq5, hF⟩ := bind_some' hF
  by_cases c6 : (q5.1 1 4) = 3
  · have hF := (if_pos c6).symm.trans hF
    exact Fr_tr (Fr_tr Fr.rf (Fr_mono (fr_X8_next (res := q5) eq5) (fun a j h => by
      unfold Wr_X8_next at h
      unfold Wr_X8_expectNumber
      rcases h with h | h | h | h
      · exact (Or.inr (Or.inl (by omega)))
      · exact (Or.inr (Or.inr (Or.inl (by omega))))
      · exact (Or.inr (Or.inr (Or.inr (Or.inl (by omega)))))
      · exact (Or.inr (Or.inr (Or.inr (Or.inr (Or.inl (by omega))))))))) (fr_X8_expectNumber_J30  hF)
  · have hF := (if_neg c6).symm.trans hF
    by_cases c8 : (q5.1 1 4) = 4
    · have hF := (if_pos c8).symm.trans hF
      by_cases c9 : v1 < 0
      · have hF := (if_pos c9).symm.trans hF
        exact Fr_tr (Fr_tr Fr.rf (Fr_mono (fr_X8_next (res := q5) eq5) (fun a j h => by
      unfold Wr_X8_next at h
      unfold Wr_X8_expectNumber
      rcases h with h | h | h | h
      · exact (Or.inr (Or.inl (by omega)))
      · exact (Or.inr (Or.inr (Or.inl (by omega))))
      · exact (Or.inr (Or.inr (Or.inr (Or.inl (by omega)))))
      · exact (Or.inr (Or.inr (Or.inr (Or.inr (Or.inl (by omega))))))))) (fr_X8_expectNumber_J30  hF)
      · have hF := (if_neg c9).symm.trans hF
        exact Fr_tr (Fr_tr Fr.rf (Fr_mono (fr_X8_next (res := q5) eq5) (fun a j h => by
      unfold Wr_X8_next at h
      unfold Wr_X8_expectNumber
      rcases h with h | h | h | h
      · exact (Or.inr (Or.inl (by omega)))
      · exact (Or.inr (Or.inr (Or.inl (by omega))))
      · exact (Or.inr (Or.inr (Or.inr (Or.inl (by omega)))))
      · exact (Or.inr (Or.inr (Or.inr (Or.inr (Or.inl (by omega))))))))) (fr_X8_expectNumber_J24  hF)
    · have hF := (if_neg c8).symm.trans hF
      exact Fr_tr (Fr_tr Fr.rf (Fr_mono (fr_X8_next (res := q5) eq5) (fun a j h => by
      unfold Wr_X8_next at h
      unfold Wr_X8_expectNumber
      rcases h with h | h | h | h
      · exact (Or.inr (Or.inl (by omega)))
      · exact (Or.inr (Or.inr (Or.inl (by omega))))
      · exact (Or.inr (Or.inr (Or.inr (Or.inl (by omega)))))
      · exact (Or.inr (Or.inr (Or.inr (Or.inr (Or.inl (by omega))))))))) (fr_X8_expectNumber_J24  hF)
def Wr_X8_readMember (v1 : Nat) (a : Nat) (j : Int) : Prop := (a = v1 ∧ j = 8) ∨ ((v1 + 1 ≤ a ∧ a ≤ v1 + 3)) ∨ (a = 1 ∧ j = 10) ∨ (a = 1 ∧ j = 3) ∨ (a = 1 ∧ j = 4) ∨ (a = 1 ∧ j = 5) ∨ (a = 1 ∧ j = 6) ∨ (a = 1 ∧ j = 9)
theorem fr_X8_readMember {N : Nat} {v1 : Nat} {σ : Sto} {res : Int × Sto} (hF : F_X8_readMember N v1 σ = some res) : Fr (Wr_X8_readMember v1) σ res.2 := by
  unfold F_X8_readMember at hF
  by_cases c1 : (σ.1 v1 8) < 8
  · have hF := (if_pos c1).symm.trans hF
    obtain ⟨q2, eq2, hF⟩ := bind_some' hF
    by_cases c3 : q2.1 = 0
    · have hF := (if_pos c3).symm.trans hF
      obtain rfl := Option.some.inj hF
      exact (Fr_tr Fr.rf (Fr_mono (fr_X8_expect (res := q2) eq2) (fun a j h => by
      unfold Wr_X8_expect at h
      unfold Wr_X8_readMember
      rcases h with h | h | h | h | h | h
      · exact (Or.inr (Or.inr (Or.inl (by omega))))
      · exact (Or.inr (Or.inr (Or.inr (Or.inl (by omega)))))
      · exact (Or.inr (Or.inr (Or.inr (Or.inr (Or.inl (by omega))))))
      · exact (Or.inr (Or.inr (Or.inr (Or.inr (Or.inr (Or.inl (by omega)))))))
      · exact (Or.inr (Or.inr (Or.inr (Or.inr (Or.inr (Or.inr (Or.inl (by omega))))))))
      · exact (Or.inr (Or.inr (Or.inr (Or.inr (Or.inr (Or.inr (Or.inr (by omega)))))))))))
    · have hF := (if_neg c3).symm.trans hF
      obtain ⟨q4, eq4, hF⟩ := bind_some' hF
      by_cases c5 : q4 < 0
      · have hF := (if_pos c5).symm.trans hF
        obtain ⟨b6, hF⟩ := inb_some hF
        obtain ⟨q7, eq7, hF⟩ := bind_some' hF
        by_cases c8 : q7.1 = 0
        · have hF := (if_pos c8).symm.trans hF
          obtain rfl := Option.some.inj hF
          exact (Fr_tr (Fr_up (Fr_tr Fr.rf (Fr_mono (fr_X8_expect (res := q2) eq2) (fun a j h => by
      unfold Wr_X8_expect at h
      unfold Wr_X8_readMember
      rcases h with h | h | h | h | h | h
      · exact (Or.inr (Or.inr (Or.inl (by omega))))
      · exact (Or.inr (Or.inr (Or.inr (Or.inl (by omega)))))
      · exact (Or.inr (Or.inr (Or.inr (Or.inr (Or.inl (by omega))))))
      · exact (Or.inr (Or.inr (Or.inr (Or.inr (Or.inr (Or.inl (by omega)))))))
      · exact (Or.inr (Or.inr (Or.inr (Or.inr (Or.inr (Or.inr (Or.inl (by omega))))))))
      · exact (Or.inr (Or.inr (Or.inr (Or.inr (Or.inr (Or.inr (Or.inr (by omega))))))))))) (show Wr_X8_readMember v1 _ _ from (Or.inr (Or.inl (by omega))))) (Fr_mono (fr_X8_expectNumber (res := q7) eq7) (fun a j h => by
      unfold Wr_X8_expectNumber at h
      unfold Wr_X8_readMember
      rcases h with h | h | h | h | h | h
      · exact (Or.inr (Or.inr (Or.inl (by omega))))
      · exact (Or.inr (Or.inr (Or.inr (Or.inl (by omega)))))
      · exact (Or.inr (Or.inr (Or.inr (Or.inr (Or.inl (by omega))))))
      · exact (Or.inr (Or.inr (Or.inr (Or.inr (Or.inr (Or.inl (by omega)))))))
      · exact (Or.inr (Or.inr (Or.inr (Or.inr (Or.inr (Or.inr (Or.inl (by omega))))))))
      · exact (Or.inr (Or.inr (Or.inr (Or.inr (Or.inr (Or.inr (Or.inr (by omega)))))))))))
        · have hF := (if_neg c8).symm.trans hF
          obtain ⟨q9, eq9, hF⟩ := bind_some' hF
          by_cases c10 : q9.1 = 0
          · have hF := (if_pos c10).symm.trans hF
            obtain rfl := Option.some.inj hF
            exact (Fr_tr (Fr_up (Fr_tr (Fr_up (Fr_tr Fr.rf (Fr_mono (fr_X8_expect (res := q2) eq2) (fun a j h => by
      unfold Wr_X8_expect at h
      unfold Wr_X8_readMember
      rcases h with h | h | h | h | h | h
      · exact (Or.inr (Or.inr (Or.inl (by omega))))
      · exact (Or.inr (Or.inr (Or.inr (Or.inl (by omega)))))
      · exact (Or.inr (Or.inr (Or.inr (Or.inr (Or.inl (by omega))))))
      · exact (Or.inr (Or.inr (Or.inr (Or.inr (Or.inr (Or.inl (by omega)))))))
      · exact (Or.inr (Or.inr (Or.inr (Or.inr (Or.inr (Or.inr (Or.inl (by omega))))))))
      · exact (Or.inr (Or.inr (Or.inr (Or.inr (Or.inr (Or.inr (Or.inr (by omega))))))))))) (show Wr_X8_readMember v1 _ _ from (Or.inr (Or.inl (by omega))))) (Fr_mono (fr_X8_expectNumber (res := q7) eq7) (fun a j h => by
      unfold Wr_X8_expectNumber at h
      unfold Wr_X8_readMember
      rcases h with h | h | h | h | h | h
      · exact (Or.inr (Or.inr (Or.inl (by omega))))
      · exact (Or.inr (Or.inr (Or.inr (Or.inl (by omega)))))
      · exact (Or.inr (Or.inr (Or.inr (Or.inr (Or.inl (by omega))))))
      · exact (Or.inr (Or.inr (Or.inr (Or.inr (Or.inr (Or.inl (by omega)))))))
      · exact (Or.inr (Or.inr (Or.inr (Or.inr (Or.inr (Or.inr (Or.inl (by omega))))))))
      · exact (Or.inr (Or.inr (Or.inr (Or.inr (Or.inr (Or.inr (Or.inr (by omega))))))))))) (show Wr_X8_readMember v1 _ _ from (Or.inr (Or.inl (by omega))))) (Fr_mono (fr_X8_expectNumber (res := q9) eq9) (fun a j h => by
      unfold Wr_X8_expectNumber at h
      unfold Wr_X8_readMember
      rcases h with h | h | h | h | h | h
      · exact (Or.inr (Or.inr (Or.inl (by omega))))
      · exact (Or.inr (Or.inr (Or.inr (Or.inl (by omega)))))
      · exact (Or.inr (Or.inr (Or.inr (Or.inr (Or.inl (by omega))))))
      · exact (Or.inr (Or.inr (Or.inr (Or.inr (Or.inr (Or.inl (by omega)))))))
      · exact (Or.inr (Or.inr (Or.inr (Or.inr (Or.inr (Or.inr (Or.inl (by omega))))))))
      · exact (Or.inr (Or.inr (Or.inr (Or.inr (Or.inr (Or.inr (Or.inr (by omega)))))))))))
          · have hF := (if_neg c10).symm.trans hF
            obtain rfl := Option.some.inj hF
            exact (Fr_up (Fr_up (Fr_tr (Fr_up (Fr_tr (Fr_up (Fr_tr Fr.rf (Fr_mono (fr_X8_expect (res := q2) eq2) (fun a j h => by
      unfold Wr_X8_expect at h
      unfold Wr_X8_readMember
      rcases h with h | h | h | h | h | h
      · exact (Or.inr (Or.inr (Or.inl (by omega))))
      · exact (Or.inr (Or.inr (Or.inr (Or.inl (by omega)))))
      · exact (Or.inr (Or.inr (Or.inr (Or.inr (Or.inl (by omega))))))
      · exact (Or.inr (Or.inr (Or.inr (Or.inr (Or.inr (Or.inl (by omega)))))))
      · exact (Or.inr (Or.inr (Or.inr (Or.inr (Or.inr (Or.inr (Or.inl (by omega))))))))
      · exact (Or.inr (Or.inr (Or.inr (Or.inr (Or.inr (Or.inr (Or.inr (by omega))))))))))) (show Wr_X8_readMember v1 _ _ from (Or.inr (Or.inl (by omega))))) (Fr_mono (fr_X8_expectNumber (res := q7) eq7) (fun a j h => by
      unfold Wr_X8_expectNumber at h
      unfold Wr_X8_readMember
      rcases h with h | h | h | h | h | h
      · exact (Or.inr (Or.inr (Or.inl (by omega))))
      · exact (Or.inr (Or.inr (Or.inr (Or.inl (by omega)))))
      · exact (Or.inr (Or.inr (Or.inr (Or.inr (Or.inl (by omega))))))
      · exact (Or.inr (Or.inr (Or.inr (Or.inr (Or.inr (Or.inl (by omega)))))))
      · exact (Or.inr (Or.inr (Or.inr (Or.inr (Or.inr (Or.inr (Or.inl (by omega))))))))
      · exact (Or.inr (Or.inr (Or.inr (Or.inr (Or.inr (Or.inr (Or.inr (by omega))))))))))) (show Wr_X8_readMember v1 _ _ from (Or.inr (Or.inl (by omega))))) (Fr_mono (fr_X8_expectNumber (res := q9) eq9) (fun a j h => by
      unfold Wr_X8_expectNumber at h
      unfold Wr_X8_readMember
      rcases h with h | h | h | h | h | h
      · exact (Or.inr (Or.inr (Or.inl (by omega))))
      · exact (Or.inr (Or.inr (Or.inr (Or.inl (by omega)))))
      · exact (Or.inr (Or.inr (Or.inr (Or.inr (Or.inl (by omega))))))
      · exact (Or.inr (Or.inr (Or.inr (Or.inr (Or.inr (Or.inl (by omega)))))))
      · exact (Or.inr (Or.inr (Or.inr (Or.inr (Or.inr (Or.inr (Or.inl (by omega))))))))
      · exact (Or.inr (Or.inr (Or.inr (Or.inr (Or.inr (Or.inr (Or.inr (by omega))))))))))) (show Wr_X8_readMember v1 _ _ from (Or.inr (Or.inl (by omega))))) (show Wr_X8_readMember v1 _ _ from (Or.inl (by omega))))
      · have hF := (if_neg c5).symm.trans hF
        obtain ⟨q11, eq11, hF⟩ := bind_some' hF
        obtain rfl := Option.some.inj hF
        exact (Fr_tr (Fr_tr Fr.rf (Fr_mono (fr_X8_expect (res := q2) eq2) (fun a j h => by
      unfold Wr_X8_expect at h
      unfold Wr_X8_readMember
      rcases h with h | h | h | h | h | h
      · exact (Or.inr (Or.inr (Or.inl (by omega))))
      · exact (Or.inr (Or.inr (Or.inr (Or.inl (by omega)))))
      · exact (Or.inr (Or.inr (Or.inr (Or.inr (Or.inl (by omega))))))
      · exact (Or.inr (Or.inr (Or.inr (Or.inr (Or.inr (Or.inl (by omega)))))))
      · exact (Or.inr (Or.inr (Or.inr (Or.inr (Or.inr (Or.inr (Or.inl (by omega))))))))
      · exact (Or.inr (Or.inr (Or.inr (Or.inr (Or.inr (Or.inr (Or.inr (by omega))))))))))) (Fr_mono (fr_X8_fail (res := q11) eq11) (fun a j h => by
      unfold Wr_X8_fail at h
      unfold Wr_X8_readMember
      rcases h with h | h
      · exact (Or.inr (Or.inr (Or.inl (by omega))))
      · exact (Or.inr (Or.inr (Or.inr (Or.inr (Or.inr (Or.inr (Or.inr (by omega)))))))))))
  · have hF := (if_neg c1).symm.trans hF
    obtain ⟨q12, eq12, hF⟩ := bind_some' hF
    obtain rfl := Option.some.inj hF
    exact (Fr_tr Fr.rf (Fr_mono (fr_X8_fail (res := q12) eq12) (fun a j h => by
      unfold Wr_X8_fail at h
      unfold Wr_X8_readMember
      rcases h with h | h
      · exact (Or.inr (Or.inr (Or.inl (by omega))))
      · exact (Or.inr (Or.inr (Or.inr (Or.inr (Or.inr (Or.inr (Or.inr (by omega)))))))))))
def Wr_X8_expectMember (v1 : Nat) (a : Nat) (j : Int) : Prop := (a = 1 ∧ j = 10) ∨ (a = 1 ∧ j = 3) ∨ (a = 1 ∧ j = 4) ∨ (a = 1 ∧ j = 5) ∨ (a = 1 ∧ j = 6) ∨ (a = 1 ∧ j = 9)
theorem fr_X8_expectMember_J45 {N : Nat} {v1 : Nat}    {σ : Sto} {res : Int × Sto} (hF : F_X8_expectMember_J45 N   σ = some res) : Fr (Wr_X8_expectMember v1) σ res.2 := by
  unfold F_X8_expectMember_J45 at hF
  obtain rfl := Option.some.inj hF
  exact Fr.rf
theorem fr_X8_expectMember {N : Nat} {v1 : Nat} {σ : Sto} {res : Int × Sto} (hF : F_X8_expectMember N v1 σ = some res) : Fr (Wr_X8_expectMember v1) σ res.2 := by
  unfold F_X8_expectMember at hF
  obtain ⟨q1, eq1, hF⟩ := bind_some' hF
  by_cases c2 : (q1.1 1 4) = 2
  · have hF := (if_pos c2).symm.trans hF
    obtain ⟨q3, eq3, hF⟩ := bind_some' hF
    by_cases c4 : 0 ≤ ((upI q1 1 6 q3).1 1 6)
    · have hF := (if_pos c4).symm.trans hF
      exact Fr_tr (Fr_up (Fr_tr Fr.rf (Fr_mono (fr_X8_next (res := q1) eq1) (fun a j h => by
      unfold Wr_X8_next at h
      unfold Wr_X8_expectMember
      rcases h with h | h | h | h
      · exact (Or.inr (Or.inl (by omega)))
      · exact (Or.inr (Or.inr (Or.inl (by omega))))
      · exact (Or.inr (Or.inr (Or.inr (Or.inl (by omega)))))
      · exact (Or.inr (Or.inr (Or.inr (Or.inr (Or.inl (by omega))))))))) (show Wr_X8_expectMember v1 _ _ from (Or.inr (Or.inr (Or.inr (Or.inr (Or.inl (by omega)))))))) (fr_X8_expectMember_J45  hF)
    · have hF := (if_neg c4).symm.trans hF
      obtain ⟨q5, eq5, hF⟩ := bind_some' hF
      by_cases c6 : q5.1 = 0
      · have hF := (if_pos c6).symm.trans hF
        obtain rfl := Option.some.inj hF
        exact (Fr_tr (Fr_up (Fr_tr Fr.rf (Fr_mono (fr_X8_next (res := q1) eq1) (fun a j h => by
      unfold Wr_X8_next at h
      unfold Wr_X8_expectMember
      rcases h with h | h | h | h
      · exact (Or.inr (Or.inl (by omega)))
      · exact (Or.inr (Or.inr (Or.inl (by omega))))
      · exact (Or.inr (Or.inr (Or.inr (Or.inl (by omega)))))
      · exact (Or.inr (Or.inr (Or.inr (Or.inr (Or.inl (by omega))))))))) (show Wr_X8_expectMember v1 _ _ from (Or.inr (Or.inr (Or.inr (Or.inr (Or.inl (by omega)))))))) (Fr_mono (fr_X8_fail (res := q5) eq5) (fun a j h => by
      unfold Wr_X8_fail at h
      unfold Wr_X8_expectMember
      rcases h with h | h
      · exact (Or.inl (by omega))
      · exact (Or.inr (Or.inr (Or.inr (Or.inr (Or.inr (by omega)))))))))
      · have hF := (if_neg c6).symm.trans hF
        exact Fr_tr (Fr_tr (Fr_up (Fr_tr Fr.rf (Fr_mono (fr_X8_next (res := q1) eq1) (fun a j h => by
      unfold Wr_X8_next at h
      unfold Wr_X8_expectMember
      rcases h with h | h | h | h
      · exact (Or.inr (Or.inl (by omega)))
      · exact (Or.inr (Or.inr (Or.inl (by omega))))
      · exact (Or.inr (Or.inr (Or.inr (Or.inl (by omega)))))
      · exact (Or.inr (Or.inr (Or.inr (Or.inr (Or.inl (by omega))))))))) (show Wr_X8_expectMember v1 _ _ from (Or.inr (Or.inr (Or.inr (Or.inr (Or.inl (by omega)))))))) (Fr_mono (fr_X8_fail (res := q5) eq5) (fun a j h => by
      unfold Wr_X8_fail at h
      unfold Wr_X8_expectMember
      rcases h with h | h
      · exact (Or.inl (by omega))
      · exact (Or.inr (Or.inr (Or.inr (Or.inr (Or.inr (by omega))))))))) (fr_X8_expectMember_J45  hF)
  · have hF := (if_neg c2).symm.trans hF
    obtain ⟨q7, eq7, hF⟩ := bind_some' hF
    obtain rfl := Option.some.inj hF
    exact (Fr_tr (Fr_tr Fr.rf (Fr_mono (fr_X8_next (res := q1) eq1) (fun a j h => by
      unfold Wr_X8_next at h
      unfold Wr_X8_expectMember
      rcases h with h | h | h | h
      · exact (Or.inr (Or.inl (by omega)))
      · exact (Or.inr (Or.inr (Or.inl (by omega))))
      · exact (Or.inr (Or.inr (Or.inr (Or.inl (by omega)))))
      · exact (Or.inr (Or.inr (Or.inr (Or.inr (Or.inl (by omega))))))))) (Fr_mono (fr_X8_fail (res := q7) eq7) (fun a j h => by
      unfold Wr_X8_fail at h
      unfold Wr_X8_expectMember
      rcases h with h | h
      · exact (Or.inl (by omega))
      · exact (Or.inr (Or.inr (Or.inr (Or.inr (Or.inr (by omega)))))))))
def Wr_X8_readOwns (v1 : Nat) (a : Nat) (j : Int) : Prop := (a = v1 + 8 ∧ j = 4) ∨ ((v1 + 9 ≤ a ∧ a ≤ v1 + 12)) ∨ (a = 1 ∧ j = 10) ∨ (a = 1 ∧ j = 3) ∨ (a = 1 ∧ j = 4) ∨ (a = 1 ∧ j = 5) ∨ (a = 1 ∧ j = 6) ∨ (a = 1 ∧ j = 9)
theorem fr_X8_readOwns {N : Nat} {v1 : Nat} {σ : Sto} {res : Int × Sto} (hF : F_X8_readOwns N v1 σ = some res) : Fr (Wr_X8_readOwns v1) σ res.2 := by
  unfold F_X8_readOwns at hF
  by_cases c1 : (σ.1 (v1 + 8) 4) < 16
  · have hF := (if_pos c1).symm.trans hF
    obtain ⟨q2, eq2, hF⟩ := bind_some' hF
    by_cases c3 : q2.1 = 0
    · have hF := (if_pos c3).symm.trans hF
      obtain rfl := Option.some.inj hF
      exact (Fr_tr Fr.rf (Fr_mono (fr_X8_expectMember (res := q2) eq2) (fun a j h => by
      unfold Wr_X8_expectMember at h
      unfold Wr_X8_readOwns
      rcases h with h | h | h | h | h | h
      · exact (Or.inr (Or.inr (Or.inl (by omega))))
      · exact (Or.inr (Or.inr (Or.inr (Or.inl (by omega)))))
      · exact (Or.inr (Or.inr (Or.inr (Or.inr (Or.inl (by omega))))))
      · exact (Or.inr (Or.inr (Or.inr (Or.inr (Or.inr (Or.inl (by omega)))))))
      · exact (Or.inr (Or.inr (Or.inr (Or.inr (Or.inr (Or.inr (Or.inl (by omega))))))))
      · exact (Or.inr (Or.inr (Or.inr (Or.inr (Or.inr (Or.inr (Or.inr (by omega)))))))))))
    · have hF := (if_neg c3).symm.trans hF
      obtain ⟨q4, eq4, hF⟩ := bind_some' hF
      by_cases c5 : q4.1 = 0
      · have hF := (if_pos c5).symm.trans hF
        obtain rfl := Option.some.inj hF
        exact (Fr_tr (Fr_tr Fr.rf (Fr_mono (fr_X8_expectMember (res := q2) eq2) (fun a j h => by
      unfold Wr_X8_expectMember at h
      unfold Wr_X8_readOwns
      rcases h with h | h | h | h | h | h
      · exact (Or.inr (Or.inr (Or.inl (by omega))))
      · exact (Or.inr (Or.inr (Or.inr (Or.inl (by omega)))))
      · exact (Or.inr (Or.inr (Or.inr (Or.inr (Or.inl (by omega))))))
      · exact (Or.inr (Or.inr (Or.inr (Or.inr (Or.inr (Or.inl (by omega)))))))
      · exact (Or.inr (Or.inr (Or.inr (Or.inr (Or.inr (Or.inr (Or.inl (by omega))))))))
      · exact (Or.inr (Or.inr (Or.inr (Or.inr (Or.inr (Or.inr (Or.inr (by omega))))))))))) (Fr_mono (fr_X8_expectMember (res := q4) eq4) (fun a j h => by
      unfold Wr_X8_expectMember at h
      unfold Wr_X8_readOwns
      rcases h with h | h | h | h | h | h
      · exact (Or.inr (Or.inr (Or.inl (by omega))))
      · exact (Or.inr (Or.inr (Or.inr (Or.inl (by omega)))))
      · exact (Or.inr (Or.inr (Or.inr (Or.inr (Or.inl (by omega))))))
      · exact (Or.inr (Or.inr (Or.inr (Or.inr (Or.inr (Or.inl (by omega)))))))
      · exact (Or.inr (Or.inr (Or.inr (Or.inr (Or.inr (Or.inr (Or.inl (by omega))))))))
      · exact (Or.inr (Or.inr (Or.inr (Or.inr (Or.inr (Or.inr (Or.inr (by omega)))))))))))
      · have hF := (if_neg c5).symm.trans hF
        by_cases c6 : (q2.2.1 1 6) < (q4.2.1 1 6)
        · have hF := (if_pos c6).symm.trans hF
          obtain ⟨q7, eq7, hF⟩ := bind_some' hF
          by_cases c8 : q7.1 = 0
          · have hF := (if_pos c8).symm.trans hF
            obtain rfl := Option.some.inj hF
            exact (Fr_tr (Fr_tr (Fr_tr Fr.rf (Fr_mono (fr_X8_expectMember (res := q2) eq2) (fun a j h => by
      unfold Wr_X8_expectMember at h
      unfold Wr_X8_readOwns
      rcases h with h | h | h | h | h | h
      · exact (Or.inr (Or.inr (Or.inl (by omega))))
      · exact (Or.inr (Or.inr (Or.inr (Or.inl (by omega)))))
      · exact (Or.inr (Or.inr (Or.inr (Or.inr (Or.inl (by omega))))))
      · exact (Or.inr (Or.inr (Or.inr (Or.inr (Or.inr (Or.inl (by omega)))))))
      · exact (Or.inr (Or.inr (Or.inr (Or.inr (Or.inr (Or.inr (Or.inl (by omega))))))))
      · exact (Or.inr (Or.inr (Or.inr (Or.inr (Or.inr (Or.inr (Or.inr (by omega))))))))))) (Fr_mono (fr_X8_expectMember (res := q4) eq4) (fun a j h => by
      unfold Wr_X8_expectMember at h
      unfold Wr_X8_readOwns
      rcases h with h | h | h | h | h | h
      · exact (Or.inr (Or.inr (Or.inl (by omega))))
      · exact (Or.inr (Or.inr (Or.inr (Or.inl (by omega)))))
      · exact (Or.inr (Or.inr (Or.inr (Or.inr (Or.inl (by omega))))))
      · exact (Or.inr (Or.inr (Or.inr (Or.inr (Or.inr (Or.inl (by omega)))))))
      · exact (Or.inr (Or.inr (Or.inr (Or.inr (Or.inr (Or.inr (Or.inl (by omega))))))))
      · exact (Or.inr (Or.inr (Or.inr (Or.inr (Or.inr (Or.inr (Or.inr (by omega))))))))))) (Fr_mono (fr_X8_expectNumber (res := q7) eq7) (fun a j h => by
      unfold Wr_X8_expectNumber at h
      unfold Wr_X8_readOwns
      rcases h with h | h | h | h | h | h
      · exact (Or.inr (Or.inr (Or.inl (by omega))))
      · exact (Or.inr (Or.inr (Or.inr (Or.inl (by omega)))))
      · exact (Or.inr (Or.inr (Or.inr (Or.inr (Or.inl (by omega))))))
      · exact (Or.inr (Or.inr (Or.inr (Or.inr (Or.inr (Or.inl (by omega)))))))
      · exact (Or.inr (Or.inr (Or.inr (Or.inr (Or.inr (Or.inr (Or.inl (by omega))))))))
      · exact (Or.inr (Or.inr (Or.inr (Or.inr (Or.inr (Or.inr (Or.inr (by omega)))))))))))
          · have hF := (if_neg c8).symm.trans hF
            obtain ⟨q9, eq9, hF⟩ := bind_some' hF
            by_cases c10 : q9.1 = 0
            · have hF := (if_pos c10).symm.trans hF
              obtain rfl := Option.some.inj hF
              exact (Fr_tr (Fr_tr (Fr_tr (Fr_tr Fr.rf (Fr_mono (fr_X8_expectMember (res := q2) eq2) (fun a j h => by
      unfold Wr_X8_expectMember at h
      unfold Wr_X8_readOwns
      rcases h with h | h | h | h | h | h
      · exact (Or.inr (Or.inr (Or.inl (by omega))))
      · exact (Or.inr (Or.inr (Or.inr (Or.inl (by omega)))))
      · exact (Or.inr (Or.inr (Or.inr (Or.inr (Or.inl (by omega))))))
      · exact (Or.inr (Or.inr (Or.inr (Or.inr (Or.inr (Or.inl (by omega)))))))
      · exact (Or.inr (Or.inr (Or.inr (Or.inr (Or.inr (Or.inr (Or.inl (by omega))))))))
      · exact (Or.inr (Or.inr (Or.inr (Or.inr (Or.inr (Or.inr (Or.inr (by omega))))))))))) (Fr_mono (fr_X8_expectMember (res := q4) eq4) (fun a j h => by
      unfold Wr_X8_expectMember at h
      unfold Wr_X8_readOwns
      rcases h with h | h | h | h | h | h
      · exact (Or.inr (Or.inr (Or.inl (by omega))))
      · exact (Or.inr (Or.inr (Or.inr (Or.inl (by omega)))))
      · exact (Or.inr (Or.inr (Or.inr (Or.inr (Or.inl (by omega))))))
      · exact (Or.inr (Or.inr (Or.inr (Or.inr (Or.inr (Or.inl (by omega)))))))
      · exact (Or.inr (Or.inr (Or.inr (Or.inr (Or.inr (Or.inr (Or.inl (by omega))))))))
      · exact (Or.inr (Or.inr (Or.inr (Or.inr (Or.inr (Or.inr (Or.inr (by omega))))))))))) (Fr_mono (fr_X8_expectNumber (res := q7) eq7) (fun a j h => by
      unfold Wr_X8_expectNumber at h
      unfold Wr_X8_readOwns
      rcases h with h | h | h | h | h | h
      · exact (Or.inr (Or.inr (Or.inl (by omega))))
      · exact (Or.inr (Or.inr (Or.inr (Or.inl (by omega)))))
      · exact (Or.inr (Or.inr (Or.inr (Or.inr (Or.inl (by omega))))))
      · exact (Or.inr (Or.inr (Or.inr (Or.inr (Or.inr (Or.inl (by omega)))))))
      · exact (Or.inr (Or.inr (Or.inr (Or.inr (Or.inr (Or.inr (Or.inl (by omega))))))))
      · exact (Or.inr (Or.inr (Or.inr (Or.inr (Or.inr (Or.inr (Or.inr (by omega))))))))))) (Fr_mono (fr_X8_expectNumber (res := q9) eq9) (fun a j h => by
      unfold Wr_X8_expectNumber at h
      unfold Wr_X8_readOwns
      rcases h with h | h | h | h | h | h
      · exact (Or.inr (Or.inr (Or.inl (by omega))))
      · exact (Or.inr (Or.inr (Or.inr (Or.inl (by omega)))))
      · exact (Or.inr (Or.inr (Or.inr (Or.inr (Or.inl (by omega))))))
      · exact (Or.inr (Or.inr (Or.inr (Or.inr (Or.inr (Or.inl (by omega)))))))
      · exact (Or.inr (Or.inr (Or.inr (Or.inr (Or.inr (Or.inr (Or.inl (by omega))))))))
      · exact (Or.inr (Or.inr (Or.inr (Or.inr (Or.inr (Or.inr (Or.inr (by omega)))))))))))
            · have hF := (if_neg c10).symm.trans hF
              obtain ⟨q11, eq11, hF⟩ := bind_some' hF
              obtain rfl := Option.some.inj hF
              exact (Fr_tr (Fr_tr (Fr_tr (Fr_tr (Fr_tr Fr.rf (Fr_mono (fr_X8_expectMember (res := q2) eq2) (fun a j h => by
      unfold Wr_X8_expectMember at h
      unfold Wr_X8_readOwns
      rcases h with h | h | h | h | h | h
      · exact (Or.inr (Or.inr (Or.inl (by omega))))
      · exact (Or.inr (Or.inr (Or.inr (Or.inl (by omega)))))
      · exact (Or.inr (Or.inr (Or.inr (Or.inr (Or.inl (by omega))))))
      · exact (Or.inr (Or.inr (Or.inr (Or.inr (Or.inr (Or.inl (by omega)))))))
      · exact (Or.inr (Or.inr (Or.inr (Or.inr (Or.inr (Or.inr (Or.inl (by omega))))))))
      · exact (Or.inr (Or.inr (Or.inr (Or.inr (Or.inr (Or.inr (Or.inr (by omega))))))))))) (Fr_mono (fr_X8_expectMember (res := q4) eq4) (fun a j h => by
      unfold Wr_X8_expectMember at h
      unfold Wr_X8_readOwns
      rcases h with h | h | h | h | h | h
      · exact (Or.inr (Or.inr (Or.inl (by omega))))
      · exact (Or.inr (Or.inr (Or.inr (Or.inl (by omega)))))
      · exact (Or.inr (Or.inr (Or.inr (Or.inr (Or.inl (by omega))))))
      · exact (Or.inr (Or.inr (Or.inr (Or.inr (Or.inr (Or.inl (by omega)))))))
      · exact (Or.inr (Or.inr (Or.inr (Or.inr (Or.inr (Or.inr (Or.inl (by omega))))))))
      · exact (Or.inr (Or.inr (Or.inr (Or.inr (Or.inr (Or.inr (Or.inr (by omega))))))))))) (Fr_mono (fr_X8_expectNumber (res := q7) eq7) (fun a j h => by
      unfold Wr_X8_expectNumber at h
      unfold Wr_X8_readOwns
      rcases h with h | h | h | h | h | h
      · exact (Or.inr (Or.inr (Or.inl (by omega))))
      · exact (Or.inr (Or.inr (Or.inr (Or.inl (by omega)))))
      · exact (Or.inr (Or.inr (Or.inr (Or.inr (Or.inl (by omega))))))
      · exact (Or.inr (Or.inr (Or.inr (Or.inr (Or.inr (Or.inl (by omega)))))))
      · exact (Or.inr (Or.inr (Or.inr (Or.inr (Or.inr (Or.inr (Or.inl (by omega))))))))
      · exact (Or.inr (Or.inr (Or.inr (Or.inr (Or.inr (Or.inr (Or.inr (by omega))))))))))) (Fr_mono (fr_X8_expectNumber (res := q9) eq9) (fun a j h => by
      unfold Wr_X8_expectNumber at h
      unfold Wr_X8_readOwns
      rcases h with h | h | h | h | h | h
      · exact (Or.inr (Or.inr (Or.inl (by omega))))
      · exact (Or.inr (Or.inr (Or.inr (Or.inl (by omega)))))
      · exact (Or.inr (Or.inr (Or.inr (Or.inr (Or.inl (by omega))))))
      · exact (Or.inr (Or.inr (Or.inr (Or.inr (Or.inr (Or.inl (by omega)))))))
      · exact (Or.inr (Or.inr (Or.inr (Or.inr (Or.inr (Or.inr (Or.inl (by omega))))))))
      · exact (Or.inr (Or.inr (Or.inr (Or.inr (Or.inr (Or.inr (Or.inr (by omega))))))))))) (Fr_mono (fr_X7_add (res := q11) eq11) (fun a j h => by
      unfold Wr_X7_add at h
      unfold Wr_X8_readOwns
      rcases h with h | h
      · exact (Or.inl (by omega))
      · exact (Or.inr (Or.inl (by omega))))))
        · have hF := (if_neg c6).symm.trans hF
          obtain ⟨q12, eq12, hF⟩ := bind_some' hF
          obtain rfl := Option.some.inj hF
          exact (Fr_tr (Fr_tr (Fr_tr Fr.rf (Fr_mono (fr_X8_expectMember (res := q2) eq2) (fun a j h => by
      unfold Wr_X8_expectMember at h
      unfold Wr_X8_readOwns
      rcases h with h | h | h | h | h | h
      · exact (Or.inr (Or.inr (Or.inl (by omega))))
      · exact (Or.inr (Or.inr (Or.inr (Or.inl (by omega)))))
      · exact (Or.inr (Or.inr (Or.inr (Or.inr (Or.inl (by omega))))))
      · exact (Or.inr (Or.inr (Or.inr (Or.inr (Or.inr (Or.inl (by omega)))))))
      · exact (Or.inr (Or.inr (Or.inr (Or.inr (Or.inr (Or.inr (Or.inl (by omega))))))))
      · exact (Or.inr (Or.inr (Or.inr (Or.inr (Or.inr (Or.inr (Or.inr (by omega))))))))))) (Fr_mono (fr_X8_expectMember (res := q4) eq4) (fun a j h => by
      unfold Wr_X8_expectMember at h
      unfold Wr_X8_readOwns
      rcases h with h | h | h | h | h | h
      · exact (Or.inr (Or.inr (Or.inl (by omega))))
      · exact (Or.inr (Or.inr (Or.inr (Or.inl (by omega)))))
      · exact (Or.inr (Or.inr (Or.inr (Or.inr (Or.inl (by omega))))))
      · exact (Or.inr (Or.inr (Or.inr (Or.inr (Or.inr (Or.inl (by omega)))))))
      · exact (Or.inr (Or.inr (Or.inr (Or.inr (Or.inr (Or.inr (Or.inl (by omega))))))))
      · exact (Or.inr (Or.inr (Or.inr (Or.inr (Or.inr (Or.inr (Or.inr (by omega))))))))))) (Fr_mono (fr_X8_fail (res := q12) eq12) (fun a j h => by
      unfold Wr_X8_fail at h
      unfold Wr_X8_readOwns
      rcases h with h | h
      · exact (Or.inr (Or.inr (Or.inl (by omega))))
      · exact (Or.inr (Or.inr (Or.inr (Or.inr (Or.inr (Or.inr (Or.inr (by omega)))))))))))
  · have hF := (if_neg c1).symm.trans hF
    obtain ⟨q13, eq13, hF⟩ := bind_some' hF
    obtain rfl := Option.some.inj hF
    exact (Fr_tr Fr.rf (Fr_mono (fr_X8_fail (res := q13) eq13) (fun a j h => by
      unfold Wr_X8_fail at h
      unfold Wr_X8_readOwns
      rcases h with h | h
      · exact (Or.inr (Or.inr (Or.inl (by omega))))
      · exact (Or.inr (Or.inr (Or.inr (Or.inr (Or.inr (Or.inr (Or.inr (by omega)))))))))))
def Wr_X8_readPeriod (v1 : Nat) (a : Nat) (j : Int) : Prop := (a = v1 ∧ j = 9) ∨ ((v1 + 4 ≤ a ∧ a ≤ v1 + 7)) ∨ (a = 1 ∧ j = 10) ∨ (a = 1 ∧ j = 3) ∨ (a = 1 ∧ j = 4) ∨ (a = 1 ∧ j = 5) ∨ (a = 1 ∧ j = 6) ∨ (a = 1 ∧ j = 9)
theorem fr_X8_readPeriod {N : Nat} {v1 : Nat} {σ : Sto} {res : Int × Sto} (hF : F_X8_readPeriod N v1 σ = some res) : Fr (Wr_X8_readPeriod v1) σ res.2 := by
  unfold F_X8_readPeriod at hF
  by_cases c1 : (σ.1 v1 9) < 12
  · have hF := (if_pos c1).symm.trans hF
    obtain ⟨q2, eq2, hF⟩ := bind_some' hF
    by_cases c3 : q2.1 = 0
    · have hF := (if_pos c3).symm.trans hF
      obtain rfl := Option.some.inj hF
      exact (Fr_tr Fr.rf (Fr_mono (fr_X8_expectMember (res := q2) eq2) (fun a j h => by
      unfold Wr_X8_expectMember at h
      unfold Wr_X8_readPeriod
      rcases h with h | h | h | h | h | h
      · exact (Or.inr (Or.inr (Or.inl (by omega))))
      · exact (Or.inr (Or.inr (Or.inr (Or.inl (by omega)))))
      · exact (Or.inr (Or.inr (Or.inr (Or.inr (Or.inl (by omega))))))
      · exact (Or.inr (Or.inr (Or.inr (Or.inr (Or.inr (Or.inl (by omega)))))))
      · exact (Or.inr (Or.inr (Or.inr (Or.inr (Or.inr (Or.inr (Or.inl (by omega))))))))
      · exact (Or.inr (Or.inr (Or.inr (Or.inr (Or.inr (Or.inr (Or.inr (by omega)))))))))))
    · have hF := (if_neg c3).symm.trans hF
      obtain ⟨b4, hF⟩ := inb_some hF
      obtain ⟨q5, eq5, hF⟩ := bind_some' hF
      by_cases c6 : q5.1 = 0
      · have hF := (if_pos c6).symm.trans hF
        obtain rfl := Option.some.inj hF
        exact (Fr_tr (Fr_up (Fr_tr Fr.rf (Fr_mono (fr_X8_expectMember (res := q2) eq2) (fun a j h => by
      unfold Wr_X8_expectMember at h
      unfold Wr_X8_readPeriod
      rcases h with h | h | h | h | h | h
      · exact (Or.inr (Or.inr (Or.inl (by omega))))
      · exact (Or.inr (Or.inr (Or.inr (Or.inl (by omega)))))
      · exact (Or.inr (Or.inr (Or.inr (Or.inr (Or.inl (by omega))))))
      · exact (Or.inr (Or.inr (Or.inr (Or.inr (Or.inr (Or.inl (by omega)))))))
      · exact (Or.inr (Or.inr (Or.inr (Or.inr (Or.inr (Or.inr (Or.inl (by omega))))))))
      · exact (Or.inr (Or.inr (Or.inr (Or.inr (Or.inr (Or.inr (Or.inr (by omega))))))))))) (show Wr_X8_readPeriod v1 _ _ from (Or.inr (Or.inl (by omega))))) (Fr_mono (fr_X8_expectNumber (res := q5) eq5) (fun a j h => by
      unfold Wr_X8_expectNumber at h
      unfold Wr_X8_readPeriod
      rcases h with h | h | h | h | h | h
      · exact (Or.inr (Or.inr (Or.inl (by omega))))
      · exact (Or.inr (Or.inr (Or.inr (Or.inl (by omega)))))
      · exact (Or.inr (Or.inr (Or.inr (Or.inr (Or.inl (by omega))))))
      · exact (Or.inr (Or.inr (Or.inr (Or.inr (Or.inr (Or.inl (by omega)))))))
      · exact (Or.inr (Or.inr (Or.inr (Or.inr (Or.inr (Or.inr (Or.inl (by omega))))))))
      · exact (Or.inr (Or.inr (Or.inr (Or.inr (Or.inr (Or.inr (Or.inr (by omega)))))))))))
      · have hF := (if_neg c6).symm.trans hF
        obtain ⟨q7, eq7, hF⟩ := bind_some' hF
        by_cases c8 : q7.1 = 0
        · have hF := (if_pos c8).symm.trans hF
          obtain rfl := Option.some.inj hF
          exact (Fr_tr (Fr_up (Fr_tr (Fr_up (Fr_tr Fr.rf (Fr_mono (fr_X8_expectMember (res := q2) eq2) (fun a j h => by
      unfold Wr_X8_expectMember at h
      unfold Wr_X8_readPeriod
      rcases h with h | h | h | h | h | h
      · exact (Or.inr (Or.inr (Or.inl (by omega))))
      · exact (Or.inr (Or.inr (Or.inr (Or.inl (by omega)))))
      · exact (Or.inr (Or.inr (Or.inr (Or.inr (Or.inl (by omega))))))
      · exact (Or.inr (Or.inr (Or.inr (Or.inr (Or.inr (Or.inl (by omega)))))))
      · exact (Or.inr (Or.inr (Or.inr (Or.inr (Or.inr (Or.inr (Or.inl (by omega))))))))
      · exact (Or.inr (Or.inr (Or.inr (Or.inr (Or.inr (Or.inr (Or.inr (by omega))))))))))) (show Wr_X8_readPeriod v1 _ _ from (Or.inr (Or.inl (by omega))))) (Fr_mono (fr_X8_expectNumber (res := q5) eq5) (fun a j h => by
      unfold Wr_X8_expectNumber at h
      unfold Wr_X8_readPeriod
      rcases h with h | h | h | h | h | h
      · exact (Or.inr (Or.inr (Or.inl (by omega))))
      · exact (Or.inr (Or.inr (Or.inr (Or.inl (by omega)))))
      · exact (Or.inr (Or.inr (Or.inr (Or.inr (Or.inl (by omega))))))
      · exact (Or.inr (Or.inr (Or.inr (Or.inr (Or.inr (Or.inl (by omega)))))))
      · exact (Or.inr (Or.inr (Or.inr (Or.inr (Or.inr (Or.inr (Or.inl (by omega))))))))
      · exact (Or.inr (Or.inr (Or.inr (Or.inr (Or.inr (Or.inr (Or.inr (by omega))))))))))) (show Wr_X8_readPeriod v1 _ _ from (Or.inr (Or.inl (by omega))))) (Fr_mono (fr_X8_expectNumber (res := q7) eq7) (fun a j h => by
      unfold Wr_X8_expectNumber at h
      unfold Wr_X8_readPeriod
      rcases h with h | h | h | h | h | h
      · exact (Or.inr (Or.inr (Or.inl (by omega))))
      · exact (Or.inr (Or.inr (Or.inr (Or.inl (by omega)))))
      · exact (Or.inr (Or.inr (Or.inr (Or.inr (Or.inl (by omega))))))
      · exact (Or.inr (Or.inr (Or.inr (Or.inr (Or.inr (Or.inl (by omega)))))))
      · exact (Or.inr (Or.inr (Or.inr (Or.inr (Or.inr (Or.inr (Or.inl (by omega))))))))
      · exact (Or.inr (Or.inr (Or.inr (Or.inr (Or.inr (Or.inr (Or.inr (by omega)))))))))))
        · have hF := (if_neg c8).symm.trans hF
          obtain ⟨q9, eq9, hF⟩ := bind_some' hF
          by_cases c10 : q9 = 0
          · have hF := (if_pos c10).symm.trans hF
            obtain ⟨q11, eq11, hF⟩ := bind_some' hF
            by_cases c12 : q11.1 = 0
            · have hF := (if_pos c12).symm.trans hF
              obtain rfl := Option.some.inj hF
              exact (Fr_tr (Fr_up (Fr_tr (Fr_up (Fr_tr (Fr_up (Fr_tr Fr.rf (Fr_mono (fr_X8_expectMember (res := q2) eq2) (fun a j h => by
      unfold Wr_X8_expectMember at h
      unfold Wr_X8_readPeriod
      rcases h with h | h | h | h | h | h
      · exact (Or.inr (Or.inr (Or.inl (by omega))))
      · exact (Or.inr (Or.inr (Or.inr (Or.inl (by omega)))))
      · exact (Or.inr (Or.inr (Or.inr (Or.inr (Or.inl (by omega))))))
      · exact (Or.inr (Or.inr (Or.inr (Or.inr (Or.inr (Or.inl (by omega)))))))
      · exact (Or.inr (Or.inr (Or.inr (Or.inr (Or.inr (Or.inr (Or.inl (by omega))))))))
      · exact (Or.inr (Or.inr (Or.inr (Or.inr (Or.inr (Or.inr (Or.inr (by omega))))))))))) (show Wr_X8_readPeriod v1 _ _ from (Or.inr (Or.inl (by omega))))) (Fr_mono (fr_X8_expectNumber (res := q5) eq5) (fun a j h => by
      unfold Wr_X8_expectNumber at h
      unfold Wr_X8_readPeriod
      rcases h with h | h | h | h | h | h
      · exact (Or.inr (Or.inr (Or.inl (by omega))))
      · exact (Or.inr (Or.inr (Or.inr (Or.inl (by omega)))))
      · exact (Or.inr (Or.inr (Or.inr (Or.inr (Or.inl (by omega))))))
      · exact (Or.inr (Or.inr (Or.inr (Or.inr (Or.inr (Or.inl (by omega)))))))
      · exact (Or.inr (Or.inr (Or.inr (Or.inr (Or.inr (Or.inr (Or.inl (by omega))))))))
      · exact (Or.inr (Or.inr (Or.inr (Or.inr (Or.inr (Or.inr (Or.inr (by omega))))))))))) (show Wr_X8_readPeriod v1 _ _ from (Or.inr (Or.inl (by omega))))) (Fr_mono (fr_X8_expectNumber (res := q7) eq7) (fun a j h => by
      unfold Wr_X8_expectNumber at h
      unfold Wr_X8_readPeriod
      rcases h with h | h | h | h | h | h
      · exact (Or.inr (Or.inr (Or.inl (by omega))))
      · exact (Or.inr (Or.inr (Or.inr (Or.inl (by omega)))))
      · exact (Or.inr (Or.inr (Or.inr (Or.inr (Or.inl (by omega))))))
      · exact (Or.inr (Or.inr (Or.inr (Or.inr (Or.inr (Or.inl (by omega)))))))
      · exact (Or.inr (Or.inr (Or.inr (Or.inr (Or.inr (Or.inr (Or.inl (by omega))))))))
      · exact (Or.inr (Or.inr (Or.inr (Or.inr (Or.inr (Or.inr (Or.inr (by omega))))))))))) (show Wr_X8_readPeriod v1 _ _ from (Or.inr (Or.inl (by omega))))) (Fr_mono (fr_X8_expectNumber (res := q11) eq11) (fun a j h => by
      unfold Wr_X8_expectNumber at h
      unfold Wr_X8_readPeriod
      rcases h with h | h | h | h | h | h
      · exact (Or.inr (Or.inr (Or.inl (by omega))))
      · exact (Or.inr (Or.inr (Or.inr (Or.inl (by omega)))))
      · exact (Or.inr (Or.inr (Or.inr (Or.inr (Or.inl (by omega))))))
      · exact (Or.inr (Or.inr (Or.inr (Or.inr (Or.inr (Or.inl (by omega)))))))
      · exact (Or.inr (Or.inr (Or.inr (Or.inr (Or.inr (Or.inr (Or.inl (by omega))))))))
      · exact (Or.inr (Or.inr (Or.inr (Or.inr (Or.inr (Or.inr (Or.inr (by omega)))))))))))
            · have hF := (if_neg c12).symm.trans hF
              obtain rfl := Option.some.inj hF
              exact (Fr_up (Fr_up (Fr_tr (Fr_up (Fr_tr (Fr_up (Fr_tr (Fr_up (Fr_tr Fr.rf (Fr_mono (fr_X8_expectMember (res := q2) eq2) (fun a j h => by
      unfold Wr_X8_expectMember at h
      unfold Wr_X8_readPeriod
      rcases h with h | h | h | h | h | h
      · exact (Or.inr (Or.inr (Or.inl (by omega))))
      · exact (Or.inr (Or.inr (Or.inr (Or.inl (by omega)))))
      · exact (Or.inr (Or.inr (Or.inr (Or.inr (Or.inl (by omega))))))
      · exact (Or.inr (Or.inr (Or.inr (Or.inr (Or.inr (Or.inl (by omega)))))))
      · exact (Or.inr (Or.inr (Or.inr (Or.inr (Or.inr (Or.inr (Or.inl (by omega))))))))
      · exact (Or.inr (Or.inr (Or.inr (Or.inr (Or.inr (Or.inr (Or.inr (by omega))))))))))) (show Wr_X8_readPeriod v1 _ _ from (Or.inr (Or.inl (by omega))))) (Fr_mono (fr_X8_expectNumber (res := q5) eq5) (fun a j h => by
      unfold Wr_X8_expectNumber at h
      unfold Wr_X8_readPeriod
      rcases h with h | h | h | h | h | h
      · exact (Or.inr (Or.inr (Or.inl (by omega))))
      · exact (Or.inr (Or.inr (Or.inr (Or.inl (by omega)))))
      · exact (Or.inr (Or.inr (Or.inr (Or.inr (Or.inl (by omega))))))
      · exact (Or.inr (Or.inr (Or.inr (Or.inr (Or.inr (Or.inl (by omega)))))))
      · exact (Or.inr (Or.inr (Or.inr (Or.inr (Or.inr (Or.inr (Or.inl (by omega))))))))
      · exact (Or.inr (Or.inr (Or.inr (Or.inr (Or.inr (Or.inr (Or.inr (by omega))))))))))) (show Wr_X8_readPeriod v1 _ _ from (Or.inr (Or.inl (by omega))))) (Fr_mono (fr_X8_expectNumber (res := q7) eq7) (fun a j h => by
      unfold Wr_X8_expectNumber at h
      unfold Wr_X8_readPeriod
      rcases h with h | h | h | h | h | h
      · exact (Or.inr (Or.inr (Or.inl (by omega))))
      · exact (Or.inr (Or.inr (Or.inr (Or.inl (by omega)))))
      · exact (Or.inr (Or.inr (Or.inr (Or.inr (Or.inl (by omega))))))
      · exact (Or.inr (Or.inr (Or.inr (Or.inr (Or.inr (Or.inl (by omega)))))))
      · exact (Or.inr (Or.inr (Or.inr (Or.inr (Or.inr (Or.inr (Or.inl (by omega))))))))
      · exact (Or.inr (Or.inr (Or.inr (Or.inr (Or.inr (Or.inr (Or.inr (by omega))))))))))) (show Wr_X8_readPeriod v1 _ _ from (Or.inr (Or.inl (by omega))))) (Fr_mono (fr_X8_expectNumber (res := q11) eq11) (fun a j h => by
      unfold Wr_X8_expectNumber at h
      unfold Wr_X8_readPeriod
      rcases h with h | h | h | h | h | h
      · exact (Or.inr (Or.inr (Or.inl (by omega))))
      · exact (Or.inr (Or.inr (Or.inr (Or.inl (by omega)))))
      · exact (Or.inr (Or.inr (Or.inr (Or.inr (Or.inl (by omega))))))
      · exact (Or.inr (Or.inr (Or.inr (Or.inr (Or.inr (Or.inl (by omega)))))))
      · exact (Or.inr (Or.inr (Or.inr (Or.inr (Or.inr (Or.inr (Or.inl (by omega))))))))
      · exact (Or.inr (Or.inr (Or.inr (Or.inr (Or.inr (Or.inr (Or.inr (by omega))))))))))) (show Wr_X8_readPeriod v1 _ _ from (Or.inr (Or.inl (by omega))))) (show Wr_X8_readPeriod v1 _ _ from (Or.inl (by omega))))
          · have hF := (if_neg c10).symm.trans hF
            obtain ⟨q13, eq13, hF⟩ := bind_some' hF
            obtain rfl := Option.some.inj hF
            exact (Fr_tr (Fr_up (Fr_tr (Fr_up (Fr_tr (Fr_up (Fr_tr Fr.rf (Fr_mono (fr_X8_expectMember (res := q2) eq2) (fun a j h => by
      unfold Wr_X8_expectMember at h
      unfold Wr_X8_readPeriod
      rcases h with h | h | h | h | h | h
      · exact (Or.inr (Or.inr (Or.inl (by omega))))
      · exact (Or.inr (Or.inr (Or.inr (Or.inl (by omega)))))
      · exact (Or.inr (Or.inr (Or.inr (Or.inr (Or.inl (by omega))))))
      · exact (Or.inr (Or.inr (Or.inr (Or.inr (Or.inr (Or.inl (by omega)))))))
      · exact (Or.inr (Or.inr (Or.inr (Or.inr (Or.inr (Or.inr (Or.inl (by omega))))))))
      · exact (Or.inr (Or.inr (Or.inr (Or.inr (Or.inr (Or.inr (Or.inr (by omega))))))))))) (show Wr_X8_readPeriod v1 _ _ from (Or.inr (Or.inl (by omega))))) (Fr_mono (fr_X8_expectNumber (res := q5) eq5) (fun a j h => by
      unfold Wr_X8_expectNumber at h
      unfold Wr_X8_readPeriod
      rcases h with h | h | h | h | h | h
      · exact (Or.inr (Or.inr (Or.inl (by omega))))
      · exact (Or.inr (Or.inr (Or.inr (Or.inl (by omega)))))
      · exact (Or.inr (Or.inr (Or.inr (Or.inr (Or.inl (by omega))))))
      · exact (Or.inr (Or.inr (Or.inr (Or.inr (Or.inr (Or.inl (by omega)))))))
      · exact (Or.inr (Or.inr (Or.inr (Or.inr (Or.inr (Or.inr (Or.inl (by omega))))))))
      · exact (Or.inr (Or.inr (Or.inr (Or.inr (Or.inr (Or.inr (Or.inr (by omega))))))))))) (show Wr_X8_readPeriod v1 _ _ from (Or.inr (Or.inl (by omega))))) (Fr_mono (fr_X8_expectNumber (res := q7) eq7) (fun a j h => by
      unfold Wr_X8_expectNumber at h
      unfold Wr_X8_readPeriod
      rcases h with h | h | h | h | h | h
      · exact (Or.inr (Or.inr (Or.inl (by omega))))
      · exact (Or.inr (Or.inr (Or.inr (Or.inl (by omega)))))
      · exact (Or.inr (Or.inr (Or.inr (Or.inr (Or.inl (by omega))))))
      · exact (Or.inr (Or.inr (Or.inr (Or.inr (Or.inr (Or.inl (by omega)))))))
      · exact (Or.inr (Or.inr (Or.inr (Or.inr (Or.inr (Or.inr (Or.inl (by omega))))))))
      · exact (Or.inr (Or.inr (Or.inr (Or.inr (Or.inr (Or.inr (Or.inr (by omega))))))))))) (show Wr_X8_readPeriod v1 _ _ from (Or.inr (Or.inl (by omega))))) (Fr_mono (fr_X8_fail (res := q13) eq13) (fun a j h => by
      unfold Wr_X8_fail at h
      unfold Wr_X8_readPeriod
      rcases h with h | h
      · exact (Or.inr (Or.inr (Or.inl (by omega))))
      · exact (Or.inr (Or.inr (Or.inr (Or.inr (Or.inr (Or.inr (Or.inr (by omega)))))))))))
  · have hF := (if_neg c1).symm.trans hF
    obtain ⟨q14, eq14, hF⟩ := bind_some' hF
    obtain rfl := Option.some.inj hF
    exact (Fr_tr Fr.rf (Fr_mono (fr_X8_fail (res := q14) eq14) (fun a j h => by
      unfold Wr_X8_fail at h
      unfold Wr_X8_readPeriod
      rcases h with h | h
      · exact (Or.inr (Or.inr (Or.inl (by omega))))
      · exact (Or.inr (Or.inr (Or.inr (Or.inr (Or.inr (Or.inr (Or.inr (by omega)))))))))))
def Wr_X8_readSetting (v1 : Nat) (a : Nat) (j : Int) : Prop := (a = v1 ∧ j = 10) ∨ (a = v1 ∧ j = 11) ∨ (a = v1 ∧ j = 12) ∨ (a = v1 ∧ j = 13) ∨ (a = 1 ∧ j = 10) ∨ (a = 1 ∧ j = 3) ∨ (a = 1 ∧ j = 4) ∨ (a = 1 ∧ j = 5) ∨ (a = 1 ∧ j = 6) ∨ (a = 1 ∧ j = 8) ∨ (a = 1 ∧ j = 9)
theorem fr_X8_readSetting {N : Nat} {v1 : Nat} {v2 : Int} {σ : Sto} {res : Int × Sto} (hF : F_X8_readSetting N v1 v2 σ = some res) : Fr (Wr_X8_readSetting v1) σ res.2 := by
  unfold F_X8_readSetting at hF
  by_cases c1 : (jand (jshr (σ.1 1 8) v2) 1) = 1
  · have hF := (if_pos c1).symm.trans hF
    obtain ⟨q13, eq13, hF⟩ := bind_some' hF
    obtain rfl := Option.some.inj hF
    exact (Fr_tr Fr.rf (Fr_mono (fr_X8_fail (res := q13) eq13) (fun a j h => by
      unfold Wr_X8_fail at h
      unfold Wr_X8_readSetting
      rcases h with h | h
      · exact (Or.inr (Or.inr (Or.inr (Or.inr (Or.inl (by omega))))))
      · exact (Or.inr (Or.inr (Or.inr (Or.inr (Or.inr (Or.inr (Or.inr (Or.inr (Or.inr (Or.inr (by omega))))))))))))))
  · have hF := (if_neg c1).symm.trans hF
    by_cases c2 : v2 = 3
    · have hF := (if_pos c2).symm.trans hF
      obtain ⟨q3, eq3, hF⟩ := bind_some' hF
      by_cases c4 : q3.1 = 0
      · have hF := (if_pos c4).symm.trans hF
        obtain rfl := Option.some.inj hF
        exact (Fr_tr (Fr_up Fr.rf (show Wr_X8_readSetting v1 _ _ from (Or.inr (Or.inr (Or.inr (Or.inr (Or.inr (Or.inr (Or.inr (Or.inr (Or.inr (Or.inl (by omega))))))))))))) (Fr_mono (fr_X8_expectNumber (res := q3) eq3) (fun a j h => by
      unfold Wr_X8_expectNumber at h
      unfold Wr_X8_readSetting
      rcases h with h | h | h | h | h | h
      · exact (Or.inr (Or.inr (Or.inr (Or.inr (Or.inl (by omega))))))
      · exact (Or.inr (Or.inr (Or.inr (Or.inr (Or.inr (Or.inl (by omega)))))))
      · exact (Or.inr (Or.inr (Or.inr (Or.inr (Or.inr (Or.inr (Or.inl (by omega))))))))
      · exact (Or.inr (Or.inr (Or.inr (Or.inr (Or.inr (Or.inr (Or.inr (Or.inl (by omega)))))))))
      · exact (Or.inr (Or.inr (Or.inr (Or.inr (Or.inr (Or.inr (Or.inr (Or.inr (Or.inl (by omega))))))))))
      · exact (Or.inr (Or.inr (Or.inr (Or.inr (Or.inr (Or.inr (Or.inr (Or.inr (Or.inr (Or.inr (by omega))))))))))))))
      · have hF := (if_neg c4).symm.trans hF
        obtain rfl := Option.some.inj hF
        exact (Fr_up (Fr_tr (Fr_up Fr.rf (show Wr_X8_readSetting v1 _ _ from (Or.inr (Or.inr (Or.inr (Or.inr (Or.inr (Or.inr (Or.inr (Or.inr (Or.inr (Or.inl (by omega))))))))))))) (Fr_mono (fr_X8_expectNumber (res := q3) eq3) (fun a j h => by
      unfold Wr_X8_expectNumber at h
      unfold Wr_X8_readSetting
      rcases h with h | h | h | h | h | h
      · exact (Or.inr (Or.inr (Or.inr (Or.inr (Or.inl (by omega))))))
      · exact (Or.inr (Or.inr (Or.inr (Or.inr (Or.inr (Or.inl (by omega)))))))
      · exact (Or.inr (Or.inr (Or.inr (Or.inr (Or.inr (Or.inr (Or.inl (by omega))))))))
      · exact (Or.inr (Or.inr (Or.inr (Or.inr (Or.inr (Or.inr (Or.inr (Or.inl (by omega)))))))))
      · exact (Or.inr (Or.inr (Or.inr (Or.inr (Or.inr (Or.inr (Or.inr (Or.inr (Or.inl (by omega))))))))))
      · exact (Or.inr (Or.inr (Or.inr (Or.inr (Or.inr (Or.inr (Or.inr (Or.inr (Or.inr (Or.inr (by omega)))))))))))))) (show Wr_X8_readSetting v1 _ _ from (Or.inl (by omega))))
    · have hF := (if_neg c2).symm.trans hF
      by_cases c5 : v2 = 4
      · have hF := (if_pos c5).symm.trans hF
        obtain ⟨q6, eq6, hF⟩ := bind_some' hF
        by_cases c7 : q6.1 = 0
        · have hF := (if_pos c7).symm.trans hF
          obtain rfl := Option.some.inj hF
          exact (Fr_tr (Fr_up Fr.rf (show Wr_X8_readSetting v1 _ _ from (Or.inr (Or.inr (Or.inr (Or.inr (Or.inr (Or.inr (Or.inr (Or.inr (Or.inr (Or.inl (by omega))))))))))))) (Fr_mono (fr_X8_expectNumber (res := q6) eq6) (fun a j h => by
      unfold Wr_X8_expectNumber at h
      unfold Wr_X8_readSetting
      rcases h with h | h | h | h | h | h
      · exact (Or.inr (Or.inr (Or.inr (Or.inr (Or.inl (by omega))))))
      · exact (Or.inr (Or.inr (Or.inr (Or.inr (Or.inr (Or.inl (by omega)))))))
      · exact (Or.inr (Or.inr (Or.inr (Or.inr (Or.inr (Or.inr (Or.inl (by omega))))))))
      · exact (Or.inr (Or.inr (Or.inr (Or.inr (Or.inr (Or.inr (Or.inr (Or.inl (by omega)))))))))
      · exact (Or.inr (Or.inr (Or.inr (Or.inr (Or.inr (Or.inr (Or.inr (Or.inr (Or.inl (by omega))))))))))
      · exact (Or.inr (Or.inr (Or.inr (Or.inr (Or.inr (Or.inr (Or.inr (Or.inr (Or.inr (Or.inr (by omega))))))))))))))
        · have hF := (if_neg c7).symm.trans hF
          obtain rfl := Option.some.inj hF
          exact (Fr_up (Fr_tr (Fr_up Fr.rf (show Wr_X8_readSetting v1 _ _ from (Or.inr (Or.inr (Or.inr (Or.inr (Or.inr (Or.inr (Or.inr (Or.inr (Or.inr (Or.inl (by omega))))))))))))) (Fr_mono (fr_X8_expectNumber (res := q6) eq6) (fun a j h => by
      unfold Wr_X8_expectNumber at h
      unfold Wr_X8_readSetting
      rcases h with h | h | h | h | h | h
      · exact (Or.inr (Or.inr (Or.inr (Or.inr (Or.inl (by omega))))))
      · exact (Or.inr (Or.inr (Or.inr (Or.inr (Or.inr (Or.inl (by omega)))))))
      · exact (Or.inr (Or.inr (Or.inr (Or.inr (Or.inr (Or.inr (Or.inl (by omega))))))))
      · exact (Or.inr (Or.inr (Or.inr (Or.inr (Or.inr (Or.inr (Or.inr (Or.inl (by omega)))))))))
      · exact (Or.inr (Or.inr (Or.inr (Or.inr (Or.inr (Or.inr (Or.inr (Or.inr (Or.inl (by omega))))))))))
      · exact (Or.inr (Or.inr (Or.inr (Or.inr (Or.inr (Or.inr (Or.inr (Or.inr (Or.inr (Or.inr (by omega)))))))))))))) (show Wr_X8_readSetting v1 _ _ from (Or.inr (Or.inl (by omega)))))
      · have hF := (if_neg c5).symm.trans hF
        by_cases c8 : v2 = 5
        · have hF := (if_pos c8).symm.trans hF
          obtain ⟨q9, eq9, hF⟩ := bind_some' hF
          by_cases c10 : q9.1 = 0
          · have hF := (if_pos c10).symm.trans hF
            obtain rfl := Option.some.inj hF
            exact (Fr_tr (Fr_up Fr.rf (show Wr_X8_readSetting v1 _ _ from (Or.inr (Or.inr (Or.inr (Or.inr (Or.inr (Or.inr (Or.inr (Or.inr (Or.inr (Or.inl (by omega))))))))))))) (Fr_mono (fr_X8_expectNumber (res := q9) eq9) (fun a j h => by
      unfold Wr_X8_expectNumber at h
      unfold Wr_X8_readSetting
      rcases h with h | h | h | h | h | h
      · exact (Or.inr (Or.inr (Or.inr (Or.inr (Or.inl (by omega))))))
      · exact (Or.inr (Or.inr (Or.inr (Or.inr (Or.inr (Or.inl (by omega)))))))
      · exact (Or.inr (Or.inr (Or.inr (Or.inr (Or.inr (Or.inr (Or.inl (by omega))))))))
      · exact (Or.inr (Or.inr (Or.inr (Or.inr (Or.inr (Or.inr (Or.inr (Or.inl (by omega)))))))))
      · exact (Or.inr (Or.inr (Or.inr (Or.inr (Or.inr (Or.inr (Or.inr (Or.inr (Or.inl (by omega))))))))))
      · exact (Or.inr (Or.inr (Or.inr (Or.inr (Or.inr (Or.inr (Or.inr (Or.inr (Or.inr (Or.inr (by omega))))))))))))))
          · have hF := (if_neg c10).symm.trans hF
            obtain rfl := Option.some.inj hF
            exact (Fr_up (Fr_tr (Fr_up Fr.rf (show Wr_X8_readSetting v1 _ _ from (Or.inr (Or.inr (Or.inr (Or.inr (Or.inr (Or.inr (Or.inr (Or.inr (Or.inr (Or.inl (by omega))))))))))))) (Fr_mono (fr_X8_expectNumber (res := q9) eq9) (fun a j h => by
      unfold Wr_X8_expectNumber at h
      unfold Wr_X8_readSetting
      rcases h with h | h | h | h | h | h
      · exact (Or.inr (Or.inr (Or.inr (Or.inr (Or.inl (by omega))))))
      · exact (Or.inr (Or.inr (Or.inr (Or.inr (Or.inr (Or.inl (by omega)))))))
      · exact (Or.inr (Or.inr (Or.inr (Or.inr (Or.inr (Or.inr (Or.inl (by omega))))))))
      · exact (Or.inr (Or.inr (Or.inr (Or.inr (Or.inr (Or.inr (Or.inr (Or.inl (by omega)))))))))
      · exact (Or.inr (Or.inr (Or.inr (Or.inr (Or.inr (Or.inr (Or.inr (Or.inr (Or.inl (by omega))))))))))
      · exact (Or.inr (Or.inr (Or.inr (Or.inr (Or.inr (Or.inr (Or.inr (Or.inr (Or.inr (Or.inr (by omega)))))))))))))) (show Wr_X8_readSetting v1 _ _ from (Or.inr (Or.inr (Or.inl (by omega))))))
        · have hF := (if_neg c8).symm.trans hF
          obtain ⟨q11, eq11, hF⟩ := bind_some' hF
          by_cases c12 : q11.1 = 0
          · have hF := (if_pos c12).symm.trans hF
            obtain rfl := Option.some.inj hF
            exact (Fr_tr (Fr_up Fr.rf (show Wr_X8_readSetting v1 _ _ from (Or.inr (Or.inr (Or.inr (Or.inr (Or.inr (Or.inr (Or.inr (Or.inr (Or.inr (Or.inl (by omega))))))))))))) (Fr_mono (fr_X8_expectNumber (res := q11) eq11) (fun a j h => by
      unfold Wr_X8_expectNumber at h
      unfold Wr_X8_readSetting
      rcases h with h | h | h | h | h | h
      · exact (Or.inr (Or.inr (Or.inr (Or.inr (Or.inl (by omega))))))
      · exact (Or.inr (Or.inr (Or.inr (Or.inr (Or.inr (Or.inl (by omega)))))))
      · exact (Or.inr (Or.inr (Or.inr (Or.inr (Or.inr (Or.inr (Or.inl (by omega))))))))
      · exact (Or.inr (Or.inr (Or.inr (Or.inr (Or.inr (Or.inr (Or.inr (Or.inl (by omega)))))))))
      · exact (Or.inr (Or.inr (Or.inr (Or.inr (Or.inr (Or.inr (Or.inr (Or.inr (Or.inl (by omega))))))))))
      · exact (Or.inr (Or.inr (Or.inr (Or.inr (Or.inr (Or.inr (Or.inr (Or.inr (Or.inr (Or.inr (by omega))))))))))))))
          · have hF := (if_neg c12).symm.trans hF
            obtain rfl := Option.some.inj hF
            exact (Fr_up (Fr_tr (Fr_up Fr.rf (show Wr_X8_readSetting v1 _ _ from (Or.inr (Or.inr (Or.inr (Or.inr (Or.inr (Or.inr (Or.inr (Or.inr (Or.inr (Or.inl (by omega))))))))))))) (Fr_mono (fr_X8_expectNumber (res := q11) eq11) (fun a j h => by
      unfold Wr_X8_expectNumber at h
      unfold Wr_X8_readSetting
      rcases h with h | h | h | h | h | h
      · exact (Or.inr (Or.inr (Or.inr (Or.inr (Or.inl (by omega))))))
      · exact (Or.inr (Or.inr (Or.inr (Or.inr (Or.inr (Or.inl (by omega)))))))
      · exact (Or.inr (Or.inr (Or.inr (Or.inr (Or.inr (Or.inr (Or.inl (by omega))))))))
      · exact (Or.inr (Or.inr (Or.inr (Or.inr (Or.inr (Or.inr (Or.inr (Or.inl (by omega)))))))))
      · exact (Or.inr (Or.inr (Or.inr (Or.inr (Or.inr (Or.inr (Or.inr (Or.inr (Or.inl (by omega))))))))))
      · exact (Or.inr (Or.inr (Or.inr (Or.inr (Or.inr (Or.inr (Or.inr (Or.inr (Or.inr (Or.inr (by omega)))))))))))))) (show Wr_X8_readSetting v1 _ _ from (Or.inr (Or.inr (Or.inr (Or.inl (by omega)))))))
def Wr_X8_readLine (v1 : Nat) (a : Nat) (j : Int) : Prop := (a = v1 ∧ j = 10) ∨ (a = v1 ∧ j = 11) ∨ (a = v1 ∧ j = 12) ∨ (a = v1 ∧ j = 13) ∨ (a = v1 + 8 ∧ j = 4) ∨ (a = v1 ∧ j = 8) ∨ (a = v1 ∧ j = 9) ∨ ((v1 + 1 ≤ a ∧ a ≤ v1 + 7)) ∨ ((v1 + 9 ≤ a ∧ a ≤ v1 + 12)) ∨ (a = 1 ∧ j = 10) ∨ (a = 1 ∧ j = 3) ∨ (a = 1 ∧ j = 4) ∨ (a = 1 ∧ j = 5) ∨ (a = 1 ∧ j = 6) ∨ (a = 1 ∧ j = 8) ∨ (a = 1 ∧ j = 9)
theorem fr_X8_readLine {N : Nat} {v1 : Nat} {σ : Sto} {res : Int × Sto} (hF : F_X8_readLine N v1 σ = some res) : Fr (Wr_X8_readLine v1) σ res.2 := by
  unfold F_X8_readLine at hF
  by_cases c1 : (σ.1 1 4) = 1
  · have hF := (if_pos c1).symm.trans hF
    by_cases c2 : (σ.1 1 6) = 0
    · have hF := (if_pos c2).symm.trans hF
      obtain ⟨q3, eq3, hF⟩ := bind_some' hF
      obtain rfl := Option.some.inj hF
      exact (Fr_tr Fr.rf (Fr_mono (fr_X8_readMember (res := q3) eq3) (fun a j h => by
      unfold Wr_X8_readMember at h
      unfold Wr_X8_readLine
      rcases h with h | h | h | h | h | h | h | h
      · exact (Or.inr (Or.inr (Or.inr (Or.inr (Or.inr (Or.inl (by omega)))))))
      · exact (Or.inr (Or.inr (Or.inr (Or.inr (Or.inr (Or.inr (Or.inr (Or.inl (by omega)))))))))
      · exact (Or.inr (Or.inr (Or.inr (Or.inr (Or.inr (Or.inr (Or.inr (Or.inr (Or.inr (Or.inl (by omega)))))))))))
      · exact (Or.inr (Or.inr (Or.inr (Or.inr (Or.inr (Or.inr (Or.inr (Or.inr (Or.inr (Or.inr (Or.inl (by omega))))))))))))
      · exact (Or.inr (Or.inr (Or.inr (Or.inr (Or.inr (Or.inr (Or.inr (Or.inr (Or.inr (Or.inr (Or.inr (Or.inl (by omega)))))))))))))
      · exact (Or.inr (Or.inr (Or.inr (Or.inr (Or.inr (Or.inr (Or.inr (Or.inr (Or.inr (Or.inr (Or.inr (Or.inr (Or.inl (by omega))))))))))))))
      · exact (Or.inr (Or.inr (Or.inr (Or.inr (Or.inr (Or.inr (Or.inr (Or.inr (Or.inr (Or.inr (Or.inr (Or.inr (Or.inr (Or.inl (by omega)))))))))))))))
      · exact (Or.inr (Or.inr (Or.inr (Or.inr (Or.inr (Or.inr (Or.inr (Or.inr (Or.inr (Or.inr (Or.inr (Or.inr (Or.inr (Or.inr (Or.inr (by omega)))))))))))))))))))
    · have hF := (if_neg c2).symm.trans hF
      by_cases c4 : (σ.1 1 6) = 1
      · have hF := (if_pos c4).symm.trans hF
        obtain ⟨q5, eq5, hF⟩ := bind_some' hF
        obtain rfl := Option.some.inj hF
        exact (Fr_tr Fr.rf (Fr_mono (fr_X8_readOwns (res := q5) eq5) (fun a j h => by
      unfold Wr_X8_readOwns at h
      unfold Wr_X8_readLine
      rcases h with h | h | h | h | h | h | h | h
      · exact (Or.inr (Or.inr (Or.inr (Or.inr (Or.inl (by omega))))))
      · exact (Or.inr (Or.inr (Or.inr (Or.inr (Or.inr (Or.inr (Or.inr (Or.inr (Or.inl (by omega))))))))))
      · exact (Or.inr (Or.inr (Or.inr (Or.inr (Or.inr (Or.inr (Or.inr (Or.inr (Or.inr (Or.inl (by omega)))))))))))
      · exact (Or.inr (Or.inr (Or.inr (Or.inr (Or.inr (Or.inr (Or.inr (Or.inr (Or.inr (Or.inr (Or.inl (by omega))))))))))))
      · exact (Or.inr (Or.inr (Or.inr (Or.inr (Or.inr (Or.inr (Or.inr (Or.inr (Or.inr (Or.inr (Or.inr (Or.inl (by omega)))))))))))))
      · exact (Or.inr (Or.inr (Or.inr (Or.inr (Or.inr (Or.inr (Or.inr (Or.inr (Or.inr (Or.inr (Or.inr (Or.inr (Or.inl (by omega))))))))))))))
      · exact (Or.inr (Or.inr (Or.inr (Or.inr (Or.inr (Or.inr (Or.inr (Or.inr (Or.inr (Or.inr (Or.inr (Or.inr (Or.inr (Or.inl (by omega)))))))))))))))
      · exact (Or.inr (Or.inr (Or.inr (Or.inr (Or.inr (Or.inr (Or.inr (Or.inr (Or.inr (Or.inr (Or.inr (Or.inr (Or.inr (Or.inr (Or.inr (by omega)))))))))))))))))))
      · have hF := (if_neg c4).symm.trans hF
        by_cases c6 : (σ.1 1 6) = 2
        · have hF := (if_pos c6).symm.trans hF
          obtain ⟨q7, eq7, hF⟩ := bind_some' hF
          obtain rfl := Option.some.inj hF
          exact (Fr_tr Fr.rf (Fr_mono (fr_X8_readPeriod (res := q7) eq7) (fun a j h => by
      unfold Wr_X8_readPeriod at h
      unfold Wr_X8_readLine
      rcases h with h | h | h | h | h | h | h | h
      · exact (Or.inr (Or.inr (Or.inr (Or.inr (Or.inr (Or.inr (Or.inl (by omega))))))))
      · exact (Or.inr (Or.inr (Or.inr (Or.inr (Or.inr (Or.inr (Or.inr (Or.inl (by omega)))))))))
      · exact (Or.inr (Or.inr (Or.inr (Or.inr (Or.inr (Or.inr (Or.inr (Or.inr (Or.inr (Or.inl (by omega)))))))))))
      · exact (Or.inr (Or.inr (Or.inr (Or.inr (Or.inr (Or.inr (Or.inr (Or.inr (Or.inr (Or.inr (Or.inl (by omega))))))))))))
      · exact (Or.inr (Or.inr (Or.inr (Or.inr (Or.inr (Or.inr (Or.inr (Or.inr (Or.inr (Or.inr (Or.inr (Or.inl (by omega)))))))))))))
      · exact (Or.inr (Or.inr (Or.inr (Or.inr (Or.inr (Or.inr (Or.inr (Or.inr (Or.inr (Or.inr (Or.inr (Or.inr (Or.inl (by omega))))))))))))))
      · exact (Or.inr (Or.inr (Or.inr (Or.inr (Or.inr (Or.inr (Or.inr (Or.inr (Or.inr (Or.inr (Or.inr (Or.inr (Or.inr (Or.inl (by omega)))))))))))))))
      · exact (Or.inr (Or.inr (Or.inr (Or.inr (Or.inr (Or.inr (Or.inr (Or.inr (Or.inr (Or.inr (Or.inr (Or.inr (Or.inr (Or.inr (Or.inr (by omega)))))))))))))))))))
        · have hF := (if_neg c6).symm.trans hF
          obtain ⟨q8, eq8, hF⟩ := bind_some' hF
          obtain rfl := Option.some.inj hF
          exact (Fr_tr Fr.rf (Fr_mono (fr_X8_readSetting (res := q8) eq8) (fun a j h => by
      unfold Wr_X8_readSetting at h
      unfold Wr_X8_readLine
      rcases h with h | h | h | h | h | h | h | h | h | h | h
      · exact (Or.inl (by omega))
      · exact (Or.inr (Or.inl (by omega)))
      · exact (Or.inr (Or.inr (Or.inl (by omega))))
      · exact (Or.inr (Or.inr (Or.inr (Or.inl (by omega)))))
      · exact (Or.inr (Or.inr (Or.inr (Or.inr (Or.inr (Or.inr (Or.inr (Or.inr (Or.inr (Or.inl (by omega)))))))))))
      · exact (Or.inr (Or.inr (Or.inr (Or.inr (Or.inr (Or.inr (Or.inr (Or.inr (Or.inr (Or.inr (Or.inl (by omega))))))))))))
      · exact (Or.inr (Or.inr (Or.inr (Or.inr (Or.inr (Or.inr (Or.inr (Or.inr (Or.inr (Or.inr (Or.inr (Or.inl (by omega)))))))))))))
      · exact (Or.inr (Or.inr (Or.inr (Or.inr (Or.inr (Or.inr (Or.inr (Or.inr (Or.inr (Or.inr (Or.inr (Or.inr (Or.inl (by omega))))))))))))))
      · exact (Or.inr (Or.inr (Or.inr (Or.inr (Or.inr (Or.inr (Or.inr (Or.inr (Or.inr (Or.inr (Or.inr (Or.inr (Or.inr (Or.inl (by omega)))))))))))))))
      · exact (Or.inr (Or.inr (Or.inr (Or.inr (Or.inr (Or.inr (Or.inr (Or.inr (Or.inr (Or.inr (Or.inr (Or.inr (Or.inr (Or.inr (Or.inl (by omega))))))))))))))))
      · exact (Or.inr (Or.inr (Or.inr (Or.inr (Or.inr (Or.inr (Or.inr (Or.inr (Or.inr (Or.inr (Or.inr (Or.inr (Or.inr (Or.inr (Or.inr (by omega)))))))))))))))))))
  · have hF := (if_neg c1).symm.trans hF
    obtain ⟨q9, eq9, hF⟩ := bind_some' hF
    obtain rfl := Option.some.inj hF
    exact (Fr_tr Fr.rf (Fr_mono (fr_X8_fail (res := q9) eq9) (fun a j h => by
      unfold Wr_X8_fail at h
      unfold Wr_X8_readLine
      rcases h with h | h
      · exact (Or.inr (Or.inr (Or.inr (Or.inr (Or.inr (Or.inr (Or.inr (Or.inr (Or.inr (Or.inl (by omega)))))))))))
      · exact (Or.inr (Or.inr (Or.inr (Or.inr (Or.inr (Or.inr (Or.inr (Or.inr (Or.inr (Or.inr (Or.inr (Or.inr (Or.inr (Or.inr (Or.inr (by omega)))))))))))))))))))
def Wr_X8_read (v1 : Nat) (a : Nat) (j : Int) : Prop := (a = v1 ∧ j = 10) ∨ (a = v1 ∧ j = 11) ∨ (a = v1 ∧ j = 12) ∨ (a = v1 ∧ j = 13) ∨ (a = v1 + 8 ∧ j = 4) ∨ (a = v1 ∧ j = 8) ∨ (a = v1 ∧ j = 9) ∨ ((v1 + 1 ≤ a ∧ a ≤ v1 + 7)) ∨ ((v1 + 9 ≤ a ∧ a ≤ v1 + 12)) ∨ (a = 1 ∧ j = 1) ∨ (a = 1 ∧ j = 10) ∨ (a = 1 ∧ j = 2) ∨ (a = 1 ∧ j = 3) ∨ (a = 1 ∧ j = 4) ∨ (a = 1 ∧ j = 5) ∨ (a = 1 ∧ j = 6) ∨ (a = 1 ∧ j = 7) ∨ (a = 1 ∧ j = 8) ∨ (a = 1 ∧ j = 9)
theorem fr_X8_read_B45 {N : Nat}  {nx45 : (Int × Sto) → Option (Int × Sto)} {v1 : Nat} {v3 : Int} {σ : Sto} {res : Int × Sto} (hnx45 : ∀ q, nx45 q = some res → Fr (Wr_X8_read v1) q.2 res.2) (hF : F_X8_read_B45 N nx45 v1 v3 σ = some res) : Fr (Wr_X8_read v1) σ res.2 := by
  unfold F_X8_read_B45 at hF
  by_cases c3 : 700 ≤ v3
  · have hF := (if_pos c3).symm.trans hF
    obtain rfl := Option.some.inj hF
    exact Fr.rf
  · have hF := (if_neg c3).symm.trans hF
    by_cases c4 : (σ.1 1 4) = 0
    · have hF := (if_pos c4).symm.trans hF
      obtain rfl := Option.some.inj hF
      exact Fr.rf
    · have hF := (if_neg c4).symm.trans hF
      obtain ⟨q5, eq5, hF⟩ := bind_some' hF
      by_cases c6 : q5.1 = 0
      · have hF := (if_pos c6).symm.trans hF
        obtain rfl := Option.some.inj hF
        exact (Fr_tr Fr.rf (Fr_mono (fr_X8_readLine (res := q5) eq5) (fun a j h => by
      unfold Wr_X8_readLine at h
      unfold Wr_X8_read
      rcases h with h | h | h | h | h | h | h | h | h | h | h | h | h | h | h | h
      · exact (Or.inl (by omega))
      · exact (Or.inr (Or.inl (by omega)))
      · exact (Or.inr (Or.inr (Or.inl (by omega))))
      · exact (Or.inr (Or.inr (Or.inr (Or.inl (by omega)))))
      · exact (Or.inr (Or.inr (Or.inr (Or.inr (Or.inl (by omega))))))
      · exact (Or.inr (Or.inr (Or.inr (Or.inr (Or.inr (Or.inl (by omega)))))))
      · exact (Or.inr (Or.inr (Or.inr (Or.inr (Or.inr (Or.inr (Or.inl (by omega))))))))
      · exact (Or.inr (Or.inr (Or.inr (Or.inr (Or.inr (Or.inr (Or.inr (Or.inl (by omega)))))))))
      · exact (Or.inr (Or.inr (Or.inr (Or.inr (Or.inr (Or.inr (Or.inr (Or.inr (Or.inl (by omega))))))))))
      · exact (Or.inr (Or.inr (Or.inr (Or.inr (Or.inr (Or.inr (Or.inr (Or.inr (Or.inr (Or.inr (Or.inl (by omega))))))))))))
      · exact (Or.inr (Or.inr (Or.inr (Or.inr (Or.inr (Or.inr (Or.inr (Or.inr (Or.inr (Or.inr (Or.inr (Or.inr (Or.inl (by omega))))))))))))))
      · exact (Or.inr (Or.inr (Or.inr (Or.inr (Or.inr (Or.inr (Or.inr (Or.inr (Or.inr (Or.inr (Or.inr (Or.inr (Or.inr (Or.inl (by omega)))))))))))))))
      · exact (Or.inr (Or.inr (Or.inr (Or.inr (Or.inr (Or.inr (Or.inr (Or.inr (Or.inr (Or.inr (Or.inr (Or.inr (Or.inr (Or.inr (Or.inl (by omega))))))))))))))))
      · exact (Or.inr (Or.inr (Or.inr (Or.inr (Or.inr (Or.inr (Or.inr (Or.inr (Or.inr (Or.inr (Or.inr (Or.inr (Or.inr (Or.inr (Or.inr (Or.inl (by omega)))))))))))))))))
      · exact (Or.inr (Or.inr (Or.inr (Or.inr (Or.inr (Or.inr (Or.inr (Or.inr (Or.inr (Or.inr (Or.inr (Or.inr (Or.inr (Or.inr (Or.inr (Or.inr (Or.inr (Or.inl (by omega)))))))))))))))))))
      · exact (Or.inr (Or.inr (Or.inr (Or.inr (Or.inr (Or.inr (Or.inr (Or.inr (Or.inr (Or.inr (Or.inr (Or.inr (Or.inr (Or.inr (Or.inr (Or.inr (Or.inr (Or.inr (by omega))))))))))))))))))))))
      · have hF := (if_neg c6).symm.trans hF
        obtain ⟨q7, eq7, hF⟩ := bind_some' hF
        by_cases c8 : q7.1 = 0
        · have hF := (if_pos c8).symm.trans hF
          obtain rfl := Option.some.inj hF
          exact (Fr_tr (Fr_tr Fr.rf (Fr_mono (fr_X8_readLine (res := q5) eq5) (fun a j h => by
      unfold Wr_X8_readLine at h
      unfold Wr_X8_read
      rcases h with h | h | h | h | h | h | h | h | h | h | h | h | h | h | h | h
      · exact (Or.inl (by omega))
      · exact (Or.inr (Or.inl (by omega)))
      · exact (Or.inr (Or.inr (Or.inl (by omega))))
      · exact (Or.inr (Or.inr (Or.inr (Or.inl (by omega)))))
      · exact (Or.inr (Or.inr (Or.inr (Or.inr (Or.inl (by omega))))))
      · exact (Or.inr (Or.inr (Or.inr (Or.inr (Or.inr (Or.inl (by omega)))))))
      · exact (Or.inr (Or.inr (Or.inr (Or.inr (Or.inr (Or.inr (Or.inl (by omega))))))))
      · exact (Or.inr (Or.inr (Or.inr (Or.inr (Or.inr (Or.inr (Or.inr (Or.inl (by omega)))))))))
      · exact (Or.inr (Or.inr (Or.inr (Or.inr (Or.inr (Or.inr (Or.inr (Or.inr (Or.inl (by omega))))))))))
      · exact (Or.inr (Or.inr (Or.inr (Or.inr (Or.inr (Or.inr (Or.inr (Or.inr (Or.inr (Or.inr (Or.inl (by omega))))))))))))
      · exact (Or.inr (Or.inr (Or.inr (Or.inr (Or.inr (Or.inr (Or.inr (Or.inr (Or.inr (Or.inr (Or.inr (Or.inr (Or.inl (by omega))))))))))))))
      · exact (Or.inr (Or.inr (Or.inr (Or.inr (Or.inr (Or.inr (Or.inr (Or.inr (Or.inr (Or.inr (Or.inr (Or.inr (Or.inr (Or.inl (by omega)))))))))))))))
      · exact (Or.inr (Or.inr (Or.inr (Or.inr (Or.inr (Or.inr (Or.inr (Or.inr (Or.inr (Or.inr (Or.inr (Or.inr (Or.inr (Or.inr (Or.inl (by omega))))))))))))))))
      · exact (Or.inr (Or.inr (Or.inr (Or.inr (Or.inr (Or.inr (Or.inr (Or.inr (Or.inr (Or.inr (Or.inr (Or.inr (Or.inr (Or.inr (Or.inr (Or.inl (by omega)))))))))))))))))
      · exact (Or.inr (Or.inr (Or.inr (Or.inr (Or.inr (Or.inr (Or.inr (Or.inr (Or.inr (Or.inr (Or.inr (Or.inr (Or.inr (Or.inr (Or.inr (Or.inr (Or.inr (Or.inl (by omega)))))))))))))))))))
      · exact (Or.inr (Or.inr (Or.inr (Or.inr (Or.inr (Or.inr (Or.inr (Or.inr (Or.inr (Or.inr (Or.inr (Or.inr (Or.inr (Or.inr (Or.inr (Or.inr (Or.inr (Or.inr (by omega)))))))))))))))))))))) (Fr_mono (fr_X8_expect (res := q7) eq7) (fun a j h => by
      unfold Wr_X8_expect at h
      unfold Wr_X8_read
      rcases h with h | h | h | h | h | h
      · exact (Or.inr (Or.inr (Or.inr (Or.inr (Or.inr (Or.inr (Or.inr (Or.inr (Or.inr (Or.inr (Or.inl (by omega))))))))))))
      · exact (Or.inr (Or.inr (Or.inr (Or.inr (Or.inr (Or.inr (Or.inr (Or.inr (Or.inr (Or.inr (Or.inr (Or.inr (Or.inl (by omega))))))))))))))
      · exact (Or.inr (Or.inr (Or.inr (Or.inr (Or.inr (Or.inr (Or.inr (Or.inr (Or.inr (Or.inr (Or.inr (Or.inr (Or.inr (Or.inl (by omega)))))))))))))))
      · exact (Or.inr (Or.inr (Or.inr (Or.inr (Or.inr (Or.inr (Or.inr (Or.inr (Or.inr (Or.inr (Or.inr (Or.inr (Or.inr (Or.inr (Or.inl (by omega))))))))))))))))
      · exact (Or.inr (Or.inr (Or.inr (Or.inr (Or.inr (Or.inr (Or.inr (Or.inr (Or.inr (Or.inr (Or.inr (Or.inr (Or.inr (Or.inr (Or.inr (Or.inl (by omega)))))))))))))))))
      · exact (Or.inr (Or.inr (Or.inr (Or.inr (Or.inr (Or.inr (Or.inr (Or.inr (Or.inr (Or.inr (Or.inr (Or.inr (Or.inr (Or.inr (Or.inr (Or.inr (Or.inr (Or.inr (by omega))))))))))))))))))))))
        · have hF := (if_neg c8).symm.trans hF
          obtain ⟨q9, eq9, hF⟩ := bind_some' hF
          exact Fr_tr (Fr_tr (Fr_up (Fr_tr (Fr_tr Fr.rf (Fr_mono (fr_X8_readLine (res := q5) eq5) (fun a j h => by
      unfold Wr_X8_readLine at h
      unfold Wr_X8_read
      rcases h with h | h | h | h | h | h | h | h | h | h | h | h | h | h | h | h
      · exact (Or.inl (by omega))
      · exact (Or.inr (Or.inl (by omega)))
      · exact (Or.inr (Or.inr (Or.inl (by omega))))
      · exact (Or.inr (Or.inr (Or.inr (Or.inl (by omega)))))
      · exact (Or.inr (Or.inr (Or.inr (Or.inr (Or.inl (by omega))))))
      · exact (Or.inr (Or.inr (Or.inr (Or.inr (Or.inr (Or.inl (by omega)))))))
      · exact (Or.inr (Or.inr (Or.inr (Or.inr (Or.inr (Or.inr (Or.inl (by omega))))))))
      · exact (Or.inr (Or.inr (Or.inr (Or.inr (Or.inr (Or.inr (Or.inr (Or.inl (by omega)))))))))
      · exact (Or.inr (Or.inr (Or.inr (Or.inr (Or.inr (Or.inr (Or.inr (Or.inr (Or.inl (by omega))))))))))
      · exact (Or.inr (Or.inr (Or.inr (Or.inr (Or.inr (Or.inr (Or.inr (Or.inr (Or.inr (Or.inr (Or.inl (by omega))))))))))))
      · exact (Or.inr (Or.inr (Or.inr (Or.inr (Or.inr (Or.inr (Or.inr (Or.inr (Or.inr (Or.inr (Or.inr (Or.inr (Or.inl (by omega))))))))))))))
      · exact (Or.inr (Or.inr (Or.inr (Or.inr (Or.inr (Or.inr (Or.inr (Or.inr (Or.inr (Or.inr (Or.inr (Or.inr (Or.inr (Or.inl (by omega)))))))))))))))
      · exact (Or.inr (Or.inr (Or.inr (Or.inr (Or.inr (Or.inr (Or.inr (Or.inr (Or.inr (Or.inr (Or.inr (Or.inr (Or.inr (Or.inr (Or.inl (by omega))))))))))))))))
      · exact (Or.inr (Or.inr (Or.inr (Or.inr (Or.inr (Or.inr (Or.inr (Or.inr (Or.inr (Or.inr (Or.inr (Or.inr (Or.inr (Or.inr (Or.inr (Or.inl (by omega)))))))))))))))))
      · exact (Or.inr (Or.inr (Or.inr (Or.inr (Or.inr (Or.inr (Or.inr (Or.inr (Or.inr (Or.inr (Or.inr (Or.inr (Or.inr (Or.inr (Or.inr (Or.inr (Or.inr (Or.inl (by omega)))))))))))))))))))
      · exact (Or.inr (Or.inr (Or.inr (Or.inr (Or.inr (Or.inr (Or.inr (Or.inr (Or.inr (Or.inr (Or.inr (Or.inr (Or.inr (Or.inr (Or.inr (Or.inr (Or.inr (Or.inr (by omega)))))))))))))))))))))) (Fr_mono (fr_X8_expect (res := q7) eq7) (fun a j h => by
      unfold Wr_X8_expect at h
      unfold Wr_X8_read
      rcases h with h | h | h | h | h | h
      · exact (Or.inr (Or.inr (Or.inr (Or.inr (Or.inr (Or.inr (Or.inr (Or.inr (Or.inr (Or.inr (Or.inl (by omega))))))))))))
      · exact (Or.inr (Or.inr (Or.inr (Or.inr (Or.inr (Or.inr (Or.inr (Or.inr (Or.inr (Or.inr (Or.inr (Or.inr (Or.inl (by omega))))))))))))))
      · exact (Or.inr (Or.inr (Or.inr (Or.inr (Or.inr (Or.inr (Or.inr (Or.inr (Or.inr (Or.inr (Or.inr (Or.inr (Or.inr (Or.inl (by omega)))))))))))))))
      · exact (Or.inr (Or.inr (Or.inr (Or.inr (Or.inr (Or.inr (Or.inr (Or.inr (Or.inr (Or.inr (Or.inr (Or.inr (Or.inr (Or.inr (Or.inl (by omega))))))))))))))))
      · exact (Or.inr (Or.inr (Or.inr (Or.inr (Or.inr (Or.inr (Or.inr (Or.inr (Or.inr (Or.inr (Or.inr (Or.inr (Or.inr (Or.inr (Or.inr (Or.inl (by omega)))))))))))))))))
      · exact (Or.inr (Or.inr (Or.inr (Or.inr (Or.inr (Or.inr (Or.inr (Or.inr (Or.inr (Or.inr (Or.inr (Or.inr (Or.inr (Or.inr (Or.inr (Or.inr (Or.inr (Or.inr (by omega)))))))))))))))))))))) (show Wr_X8_read v1 _ _ from (Or.inr (Or.inr (Or.inr (Or.inr (Or.inr (Or.inr (Or.inr (Or.inr (Or.inr (Or.inr (Or.inr (Or.inr (Or.inr (Or.inr (Or.inr (Or.inr (Or.inl (by omega)))))))))))))))))))) (Fr_mono (fr_X8_next (res := q9) eq9) (fun a j h => by
      unfold Wr_X8_next at h
      unfold Wr_X8_read
      rcases h with h | h | h | h
      · exact (Or.inr (Or.inr (Or.inr (Or.inr (Or.inr (Or.inr (Or.inr (Or.inr (Or.inr (Or.inr (Or.inr (Or.inr (Or.inl (by omega))))))))))))))
      · exact (Or.inr (Or.inr (Or.inr (Or.inr (Or.inr (Or.inr (Or.inr (Or.inr (Or.inr (Or.inr (Or.inr (Or.inr (Or.inr (Or.inl (by omega)))))))))))))))
      · exact (Or.inr (Or.inr (Or.inr (Or.inr (Or.inr (Or.inr (Or.inr (Or.inr (Or.inr (Or.inr (Or.inr (Or.inr (Or.inr (Or.inr (Or.inl (by omega))))))))))))))))
      · exact (Or.inr (Or.inr (Or.inr (Or.inr (Or.inr (Or.inr (Or.inr (Or.inr (Or.inr (Or.inr (Or.inr (Or.inr (Or.inr (Or.inr (Or.inr (Or.inl (by omega)))))))))))))))))))) (hnx45 ((ja v3 1), q9) hF)
theorem fr_X8_read {N : Nat} {v1 : Nat} {v2 : Int} {σ : Sto} {res : Int × Sto} (hF : F_X8_read N v1 v2 σ = some res) : Fr (Wr_X8_read v1) σ res.2 := by
  unfold F_X8_read at hF
  obtain ⟨q1, eq1, hF⟩ := bind_some' hF
  obtain ⟨q2, eq2, hF⟩ := bind_some' hF
  exact Fr_tr (Fr_tr (Fr_tr (Fr_up (Fr_up (Fr_up (Fr_up (Fr_up (Fr_up (Fr_up Fr.rf (show Wr_X8_read v1 _ _ from (Or.inr (Or.inr (Or.inr (Or.inr (Or.inr (Or.inr (Or.inr (Or.inr (Or.inr (Or.inr (Or.inr (Or.inl (by omega))))))))))))))) (show Wr_X8_read v1 _ _ from (Or.inr (Or.inr (Or.inr (Or.inr (Or.inr (Or.inr (Or.inr (Or.inr (Or.inr (Or.inr (Or.inr (Or.inr (Or.inl (by omega)))))))))))))))) (show Wr_X8_read v1 _ _ from (Or.inr (Or.inr (Or.inr (Or.inr (Or.inr (Or.inr (Or.inr (Or.inr (Or.inr (Or.inl (by omega))))))))))))) (show Wr_X8_read v1 _ _ from (Or.inr (Or.inr (Or.inr (Or.inr (Or.inr (Or.inr (Or.inr (Or.inr (Or.inr (Or.inr (Or.inr (Or.inr (Or.inr (Or.inr (Or.inr (Or.inr (Or.inl (by omega)))))))))))))))))))) (show Wr_X8_read v1 _ _ from (Or.inr (Or.inr (Or.inr (Or.inr (Or.inr (Or.inr (Or.inr (Or.inr (Or.inr (Or.inr (Or.inr (Or.inr (Or.inr (Or.inr (Or.inr (Or.inr (Or.inr (Or.inl (by omega))))))))))))))))))))) (show Wr_X8_read v1 _ _ from (Or.inr (Or.inr (Or.inr (Or.inr (Or.inr (Or.inr (Or.inr (Or.inr (Or.inr (Or.inr (Or.inr (Or.inr (Or.inr (Or.inr (Or.inr (Or.inr (Or.inr (Or.inr (by omega))))))))))))))))))))) (show Wr_X8_read v1 _ _ from (Or.inr (Or.inr (Or.inr (Or.inr (Or.inr (Or.inr (Or.inr (Or.inr (Or.inr (Or.inr (Or.inl (by omega)))))))))))))) (Fr_mono (fr_X0_clear (res := q1) eq1) (fun a j h => by
      unfold Wr_X0_clear at h
      unfold Wr_X8_read
      rcases h with h | h | h | h | h | h | h
      · exact (Or.inl (by omega))
      · exact (Or.inr (Or.inl (by omega)))
      · exact (Or.inr (Or.inr (Or.inl (by omega))))
      · exact (Or.inr (Or.inr (Or.inr (Or.inl (by omega)))))
      · exact (Or.inr (Or.inr (Or.inr (Or.inr (Or.inl (by omega))))))
      · exact (Or.inr (Or.inr (Or.inr (Or.inr (Or.inr (Or.inl (by omega)))))))
      · exact (Or.inr (Or.inr (Or.inr (Or.inr (Or.inr (Or.inr (Or.inl (by omega))))))))))) (Fr_mono (fr_X8_next (res := q2) eq2) (fun a j h => by
      unfold Wr_X8_next at h
      unfold Wr_X8_read
      rcases h with h | h | h | h
      · exact (Or.inr (Or.inr (Or.inr (Or.inr (Or.inr (Or.inr (Or.inr (Or.inr (Or.inr (Or.inr (Or.inr (Or.inr (Or.inl (by omega))))))))))))))
      · exact (Or.inr (Or.inr (Or.inr (Or.inr (Or.inr (Or.inr (Or.inr (Or.inr (Or.inr (Or.inr (Or.inr (Or.inr (Or.inr (Or.inl (by omega)))))))))))))))
      · exact (Or.inr (Or.inr (Or.inr (Or.inr (Or.inr (Or.inr (Or.inr (Or.inr (Or.inr (Or.inr (Or.inr (Or.inr (Or.inr (Or.inr (Or.inl (by omega))))))))))))))))
      · exact (Or.inr (Or.inr (Or.inr (Or.inr (Or.inr (Or.inr (Or.inr (Or.inr (Or.inr (Or.inr (Or.inr (Or.inr (Or.inr (Or.inr (Or.inr (Or.inl (by omega)))))))))))))))))))) (loopK_ind (res := res) (P := fun (q : Int × Sto) => Fr (Wr_X8_read v1) q.2 res.2) (fun nx q hn hF => fr_X8_read_B45 hn hF) N (0, q2) hF)
def Wr_X9_pay (a : Nat) (j : Int) : Prop := (a = 68 ∧ j = 4) ∨ ((69 ≤ a ∧ a ≤ 72))
theorem fr_X9_pay {N : Nat} {v1 : Int} {v2 : Int} {v3 : Int} {σ : Sto} {res : Sto} (hF : F_X9_pay N v1 v2 v3 σ = some res) : Fr (Wr_X9_pay) σ res := by
  unfold F_X9_pay at hF
  obtain ⟨b1, hF⟩ := inb_some hF
  obtain ⟨b2, hF⟩ := inb_some hF
  obtain ⟨b3, hF⟩ := inb_some hF
  obtain ⟨b4, hF⟩ := inb_some hF
  obtain ⟨b5, hF⟩ := inb_some hF
  obtain rfl := Option.some.inj hF
  exact (Fr_up (Fr_up (Fr_up (Fr_up (Fr_up (Fr_up Fr.rf (show Wr_X9_pay _ _ from (Or.inr (by omega)))) (show Wr_X9_pay _ _ from (Or.inr (by omega)))) (show Wr_X9_pay _ _ from (Or.inr (by omega)))) (show Wr_X9_pay _ _ from (Or.inr (by omega)))) (show Wr_X9_pay _ _ from (Or.inr (by omega)))) (show Wr_X9_pay _ _ from (Or.inl (by omega))))
def Wr_X9_run (a : Nat) (j : Int) : Prop := (a = 68 ∧ j = 4) ∨ ((69 ≤ a ∧ a ≤ 72))
theorem fr_X9_run_J81 {N : Nat}  {nx7 : (Int × Sto) → Option (Sto)} {v1 : Int} {v2 : Int} {v3 : Int} {v4 : Int} {σ : Sto} {res : Sto} (hnx7 : ∀ q, nx7 q = some res → Fr (Wr_X9_run) q.2 res) (hF : F_X9_run_J81 N nx7 v1 v2 v3 v4 σ = some res) : Fr (Wr_X9_run) σ res := by
  unfold F_X9_run_J81 at hF
  obtain ⟨b2, hF⟩ := inb_some hF
  by_cases c3 : (σ.1 69 v3) < 0
  · have hF := (if_pos c3).symm.trans hF
    obtain ⟨b4, hF⟩ := inb_some hF
    obtain ⟨q5, eq5, hF⟩ := bind_some' hF
    exact Fr_tr (Fr_tr Fr.rf (Fr_mono (fr_X9_pay (res := q5) eq5) (fun a j h => by
      unfold Wr_X9_pay at h
      unfold Wr_X9_run
      rcases h with h | h
      · exact (Or.inl (by omega))
      · exact (Or.inr (by omega))))) (hnx7 ((ja v2 1), q5) hF)
  · have hF := (if_neg c3).symm.trans hF
    obtain rfl := Option.some.inj hF
    exact Fr.rf
theorem fr_X9_run_J73 {N : Nat}  {nx7 : (Int × Sto) → Option (Sto)} {nx20 : (Int × Int × Int) → Option (Sto)} {v1 : Int} {v2 : Int} {v3 : Int} {v5 : Int} {t0 : Int} {σ : Sto} {res : Sto} (hnx7 : ∀ q, nx7 q = some res → Fr (Wr_X9_run) q.2 res) (hnx20 : ∀ q, nx20 q = some res → Fr (Wr_X9_run) σ res) (hF : F_X9_run_J73 N nx7 nx20 v1 v2 v3 v5 t0 σ = some res) : Fr (Wr_X9_run) σ res := by
  unfold F_X9_run_J73 at hF
  exact hnx20 _ hF
theorem fr_X9_run_J48 {N : Nat}  {nx7 : (Int × Sto) → Option (Sto)} {nx20 : (Int × Int × Int) → Option (Sto)} {v1 : Int} {v2 : Int} {v4 : Int} {v5 : Int} {t0 : Int} {σ : Sto} {res : Sto} (hnx7 : ∀ q, nx7 q = some res → Fr (Wr_X9_run) q.2 res) (hnx20 : ∀ q, nx20 q = some res → Fr (Wr_X9_run) σ res) (hF : F_X9_run_J48 N nx7 nx20 v1 v2 v4 v5 t0 σ = some res) : Fr (Wr_X9_run) σ res := by
  unfold F_X9_run_J48 at hF
  obtain ⟨b7, hF⟩ := inb_some hF
  obtain ⟨b8, hF⟩ := inb_some hF
  by_cases c9 : (σ.1 69 v5) ≤ (σ.1 69 v4)
  · have hF := (if_pos c9).symm.trans hF
    exact fr_X9_run_J73 hnx7 hnx20 hF
  · have hF := (if_neg c9).symm.trans hF
    exact fr_X9_run_J73 hnx7 hnx20 hF
theorem fr_X9_run_B20 {N : Nat}  {nx7 : (Int × Sto) → Option (Sto)} {nx20 : (Int × Int × Int) → Option (Sto)} {v1 : Int} {v2 : Int} {v3 : Int} {v4 : Int} {v5 : Int} {σ : Sto} {res : Sto} (hnx7 : ∀ q, nx7 q = some res → Fr (Wr_X9_run) q.2 res) (hnx20 : ∀ q, nx20 q = some res → Fr (Wr_X9_run) σ res) (hF : F_X9_run_B20 N nx7 nx20 v1 v2 v3 v4 v5 σ = some res) : Fr (Wr_X9_run) σ res := by
  unfold F_X9_run_B20 at hF
  by_cases c6 : v1 ≤ v5
  · have hF := (if_pos c6).symm.trans hF
    exact fr_X9_run_J81 hnx7 hF
  · have hF := (if_neg c6).symm.trans hF
    obtain ⟨b10, hF⟩ := inb_some hF
    obtain ⟨b11, hF⟩ := inb_some hF
    by_cases c12 : (σ.1 69 v3) ≤ (σ.1 69 v5)
    · have hF := (if_pos c12).symm.trans hF
      exact fr_X9_run_J48 hnx7 hnx20 hF
    · have hF := (if_neg c12).symm.trans hF
      exact fr_X9_run_J48 hnx7 hnx20 hF
theorem fr_X9_run_B7 {N : Nat}  {nx7 : (Int × Sto) → Option (Sto)} {v1 : Int} {v2 : Int} {σ : Sto} {res : Sto} (hnx7 : ∀ q, nx7 q = some res → Fr (Wr_X9_run) q.2 res) (hF : F_X9_run_B7 N nx7 v1 v2 σ = some res) : Fr (Wr_X9_run) σ res := by
  unfold F_X9_run_B7 at hF
  by_cases c1 : v1 ≤ v2
  · have hF := (if_pos c1).symm.trans hF
    obtain rfl := Option.some.inj hF
    exact Fr.rf
  · have hF := (if_neg c1).symm.trans hF
    exact (loopK_ind (res := res) (P := fun (q : Int × Int × Int) => Fr (Wr_X9_run) σ res) (fun nx q hn hF => fr_X9_run_B20 hnx7 hn hF) N (0, 0, 1) hF)
theorem fr_X9_run {N : Nat} {v1 : Int} {σ : Sto} {res : Sto} (hF : F_X9_run N v1 σ = some res) : Fr (Wr_X9_run) σ res := by
  unfold F_X9_run at hF
  exact Fr_tr (Fr_up Fr.rf (show Wr_X9_run _ _ from (Or.inl (by omega)))) (loopK_ind (res := res) (P := fun (q : Int × Sto) => Fr (Wr_X9_run) q.2 res) (fun nx q hn hF => fr_X9_run_B7 hn hF) N (0, (upI σ 68 4 0)) hF)
def Wr_X10_stepsBetween (a : Nat) (j : Int) : Prop := (a = 51)
theorem fr_X10_stepsBetween_J127 {N : Nat}   {v2 : Int} {σ : Sto} {res : Int × Sto} (hF : F_X10_stepsBetween_J127 N  v2 σ = some res) : Fr (Wr_X10_stepsBetween) σ res.2 := by
  unfold F_X10_stepsBetween_J127 at hF
  obtain ⟨b1, hF⟩ := inb_some hF
  obtain rfl := Option.some.inj hF
  exact Fr.rf
theorem fr_X10_stepsBetween_J121 {N : Nat}  {nx2 : (Int × Sto) → Option (Int × Sto)} {v1 : Int} {v2 : Int} {v3 : Int} {σ : Sto} {res : Int × Sto} (hnx2 : ∀ q, nx2 q = some res → Fr (Wr_X10_stepsBetween) q.2 res.2) (hF : F_X10_stepsBetween_J121 N nx2 v1 v2 v3 σ = some res) : Fr (Wr_X10_stepsBetween) σ res.2 := by
  unfold F_X10_stepsBetween_J121 at hF
  exact Fr_tr Fr.rf (hnx2 ((ja v3 1), σ) hF)
theorem fr_X10_stepsBetween_J115 {N : Nat}  {nx2 : (Int × Sto) → Option (Int × Sto)} {nx30 : (Int × Sto) → Option (Int × Sto)} {v1 : Int} {v2 : Int} {v3 : Int} {v4 : Int} {σ : Sto} {res : Int × Sto} (hnx2 : ∀ q, nx2 q = some res → Fr (Wr_X10_stepsBetween) q.2 res.2) (hnx30 : ∀ q, nx30 q = some res → Fr (Wr_X10_stepsBetween) q.2 res.2) (hF : F_X10_stepsBetween_J115 N nx2 nx30 v1 v2 v3 v4 σ = some res) : Fr (Wr_X10_stepsBetween) σ res.2 := by
  unfold F_X10_stepsBetween_J115 at hF
  exact Fr_tr Fr.rf (hnx30 ((ja v4 1), σ) hF)
theorem fr_X10_stepsBetween_J100 {N : Nat}  {nx2 : (Int × Sto) → Option (Int × Sto)} {nx30 : (Int × Sto) → Option (Int × Sto)} {v1 : Int} {v2 : Int} {v3 : Int} {v4 : Int} {σ : Sto} {res : Int × Sto} (hnx2 : ∀ q, nx2 q = some res → Fr (Wr_X10_stepsBetween) q.2 res.2) (hnx30 : ∀ q, nx30 q = some res → Fr (Wr_X10_stepsBetween) q.2 res.2) (hF : F_X10_stepsBetween_J100 N nx2 nx30 v1 v2 v3 v4 σ = some res) : Fr (Wr_X10_stepsBetween) σ res.2 := by
  unfold F_X10_stepsBetween_J100 at hF
  obtain ⟨b6, hF⟩ := inb_some hF
  obtain ⟨b7, hF⟩ := inb_some hF
  exact Fr_tr (Fr_up Fr.rf (show Wr_X10_stepsBetween _ _ from (by unfold Wr_X10_stepsBetween; omega))) (fr_X10_stepsBetween_J115 hnx2 hnx30 hF)
theorem fr_X10_stepsBetween_J66 {N : Nat}  {nx2 : (Int × Sto) → Option (Int × Sto)} {nx30 : (Int × Sto) → Option (Int × Sto)} {v1 : Int} {v2 : Int} {v3 : Int} {v4 : Int} {t0 : Int} {σ : Sto} {res : Int × Sto} (hnx2 : ∀ q, nx2 q = some res → Fr (Wr_X10_stepsBetween) q.2 res.2) (hnx30 : ∀ q, nx30 q = some res → Fr (Wr_X10_stepsBetween) q.2 res.2) (hF : F_X10_stepsBetween_J66 N nx2 nx30 v1 v2 v3 v4 t0 σ = some res) : Fr (Wr_X10_stepsBetween) σ res.2 := by
  unfold F_X10_stepsBetween_J66 at hF
  by_cases c5 : t0 = 0
  · have hF := (if_pos c5).symm.trans hF
    exact fr_X10_stepsBetween_J115 hnx2 hnx30 hF
  · have hF := (if_neg c5).symm.trans hF
    obtain ⟨b8, hF⟩ := inb_some hF
    by_cases c9 : (σ.1 51 v3) < 0
    · have hF := (if_pos c9).symm.trans hF
      exact fr_X10_stepsBetween_J100 hnx2 hnx30 hF
    · have hF := (if_neg c9).symm.trans hF
      obtain ⟨b10, hF⟩ := inb_some hF
      by_cases c11 : (σ.1 51 v3) ≤ (ja (σ.1 51 v4) 1)
      · have hF := (if_pos c11).symm.trans hF
        exact fr_X10_stepsBetween_J115 hnx2 hnx30 hF
      · have hF := (if_neg c11).symm.trans hF
        exact fr_X10_stepsBetween_J100 hnx2 hnx30 hF
theorem fr_X10_stepsBetween_J65 {N : Nat}  {nx2 : (Int × Sto) → Option (Int × Sto)} {nx30 : (Int × Sto) → Option (Int × Sto)} {v1 : Int} {v2 : Int} {v3 : Int} {v4 : Int} {σ : Sto} {res : Int × Sto} (hnx2 : ∀ q, nx2 q = some res → Fr (Wr_X10_stepsBetween) q.2 res.2) (hnx30 : ∀ q, nx30 q = some res → Fr (Wr_X10_stepsBetween) q.2 res.2) (hF : F_X10_stepsBetween_J65 N nx2 nx30 v1 v2 v3 v4 σ = some res) : Fr (Wr_X10_stepsBetween) σ res.2 := by
  unfold F_X10_stepsBetween_J65 at hF
  exact fr_X10_stepsBetween_J66 hnx2 hnx30 hF
theorem fr_X10_stepsBetween_B30 {N : Nat}  {nx2 : (Int × Sto) → Option (Int × Sto)} {nx30 : (Int × Sto) → Option (Int × Sto)} {v1 : Int} {v2 : Int} {v3 : Int} {v4 : Int} {σ : Sto} {res : Int × Sto} (hnx2 : ∀ q, nx2 q = some res → Fr (Wr_X10_stepsBetween) q.2 res.2) (hnx30 : ∀ q, nx30 q = some res → Fr (Wr_X10_stepsBetween) q.2 res.2) (hF : F_X10_stepsBetween_B30 N nx2 nx30 v1 v2 v3 v4 σ = some res) : Fr (Wr_X10_stepsBetween) σ res.2 := by
  unfold F_X10_stepsBetween_B30 at hF
  by_cases c4 : v3 ≤ v4
  · have hF := (if_pos c4).symm.trans hF
    exact fr_X10_stepsBetween_J121 hnx2 hF
  · have hF := (if_neg c4).symm.trans hF
    obtain ⟨b12, hF⟩ := inb_some hF
    by_cases c13 : (σ.1 51 v4) < 0
    · have hF := (if_pos c13).symm.trans hF
      exact fr_X10_stepsBetween_J65 hnx2 hnx30 hF
    · have hF := (if_neg c13).symm.trans hF
      obtain ⟨b14, hF⟩ := inb_some hF
      by_cases c15 : (σ.1 47 (ja (jm v4 8) v3)) ≤ 0
      · have hF := (if_pos c15).symm.trans hF
        exact fr_X10_stepsBetween_J65 hnx2 hnx30 hF
      · have hF := (if_neg c15).symm.trans hF
        exact fr_X10_stepsBetween_J66 hnx2 hnx30 hF
theorem fr_X10_stepsBetween_J26 {N : Nat}  {nx2 : (Int × Sto) → Option (Int × Sto)} {v1 : Int} {v2 : Int} {v3 : Int} {t1 : Int} {t2 : Int} {σ : Sto} {res : Int × Sto} (hnx2 : ∀ q, nx2 q = some res → Fr (Wr_X10_stepsBetween) q.2 res.2) (hF : F_X10_stepsBetween_J26 N nx2 v1 v2 v3 t1 t2 σ = some res) : Fr (Wr_X10_stepsBetween) σ res.2 := by
  unfold F_X10_stepsBetween_J26 at hF
  obtain ⟨b3, hF⟩ := inb_some hF
  exact Fr_tr (Fr_up Fr.rf (show Wr_X10_stepsBetween _ _ from (by unfold Wr_X10_stepsBetween; omega))) (loopK_ind (res := res) (P := fun (q : Int × Sto) => Fr (Wr_X10_stepsBetween) q.2 res.2) (fun nx q hn hF => fr_X10_stepsBetween_B30 hnx2 hn hF) N (v1, (upI σ 51 t1 t2)) hF)
theorem fr_X10_stepsBetween_B2 {N : Nat}  {nx2 : (Int × Sto) → Option (Int × Sto)} {v1 : Int} {v2 : Int} {v3 : Int} {σ : Sto} {res : Int × Sto} (hnx2 : ∀ q, nx2 q = some res → Fr (Wr_X10_stepsBetween) q.2 res.2) (hF : F_X10_stepsBetween_B2 N nx2 v1 v2 v3 σ = some res) : Fr (Wr_X10_stepsBetween) σ res.2 := by
  unfold F_X10_stepsBetween_B2 at hF
  by_cases c2 : (σ.1 46 5) ≤ v3
  · have hF := (if_pos c2).symm.trans hF
    exact fr_X10_stepsBetween_J127  hF
  · have hF := (if_neg c2).symm.trans hF
    by_cases c16 : v3 = v1
    · have hF := (if_pos c16).symm.trans hF
      exact fr_X10_stepsBetween_J26 hnx2 hF
    · have hF := (if_neg c16).symm.trans hF
      exact fr_X10_stepsBetween_J26 hnx2 hF
theorem fr_X10_stepsBetween {N : Nat} {v1 : Int} {v2 : Int} {σ : Sto} {res : Int × Sto} (hF : F_X10_stepsBetween N v1 v2 σ = some res) : Fr (Wr_X10_stepsBetween) σ res.2 := by
  unfold F_X10_stepsBetween at hF
  exact (loopK_ind (res := res) (P := fun (q : Int × Sto) => Fr (Wr_X10_stepsBetween) q.2 res.2) (fun nx q hn hF => fr_X10_stepsBetween_B2 hn hF) N (0, σ) hF)
def Wr_X11_feed (a : Nat) (j : Int) : Prop := (a = 1 ∧ j = 1) ∨ (a = 2)
theorem fr_X11_feed {N : Nat} {v1 : Int} {v2 : Int} {v3 : Int} {v4 : Int} {v5 : Int} {σ : Sto} {res : Int × Sto} (hF : F_X11_feed N v1 v2 v3 v4 v5 σ = some res) : Fr (Wr_X11_feed) σ res.2 := by
  unfold F_X11_feed at hF
  by_cases c1 : (ja (σ.1 1 1) 20) ≤ 700
  · have hF := (if_pos c1).symm.trans hF
    obtain ⟨q2, eq2, hF⟩ := bind_some' hF
    obtain ⟨q3, eq3, hF⟩ := bind_some' hF
    obtain ⟨q4, eq4, hF⟩ := bind_some' hF
    obtain ⟨q5, eq5, hF⟩ := bind_some' hF
    obtain ⟨q6, eq6, hF⟩ := bind_some' hF
    obtain rfl := Option.some.inj hF
    exact (Fr_tr (Fr_tr (Fr_tr (Fr_tr (Fr_tr Fr.rf (Fr_mono (fr_X8_put (res := q2) eq2) (fun a j h => by
      unfold Wr_X8_put at h
      unfold Wr_X11_feed
      rcases h with h | h
      · exact (Or.inl (by omega))
      · exact (Or.inr (by omega))))) (Fr_mono (fr_X8_put (res := q3) eq3) (fun a j h => by
      unfold Wr_X8_put at h
      unfold Wr_X11_feed
      rcases h with h | h
      · exact (Or.inl (by omega))
      · exact (Or.inr (by omega))))) (Fr_mono (fr_X8_put (res := q4) eq4) (fun a j h => by
      unfold Wr_X8_put at h
      unfold Wr_X11_feed
      rcases h with h | h
      · exact (Or.inl (by omega))
      · exact (Or.inr (by omega))))) (Fr_mono (fr_X8_put (res := q5) eq5) (fun a j h => by
      unfold Wr_X8_put at h
      unfold Wr_X11_feed
      rcases h with h | h
      · exact (Or.inl (by omega))
      · exact (Or.inr (by omega))))) (Fr_mono (fr_X8_put (res := q6) eq6) (fun a j h => by
      unfold Wr_X8_put at h
      unfold Wr_X11_feed
      rcases h with h | h
      · exact (Or.inl (by omega))
      · exact (Or.inr (by omega)))))
  · have hF := (if_neg c1).symm.trans hF
    obtain rfl := Option.some.inj hF
    exact Fr.rf
def Wr_X11_forgetNet (a : Nat) (j : Int) : Prop := (a = 0 ∧ j = 16) ∨ (a = 0 ∧ j = 17)
theorem fr_X11_forgetNet {N : Nat}  {σ : Sto} {res : Sto} (hF : F_X11_forgetNet N  σ = some res) : Fr (Wr_X11_forgetNet) σ res := by
  unfold F_X11_forgetNet at hF
  obtain rfl := Option.some.inj hF
  exact (Fr_up (Fr_up Fr.rf (show Wr_X11_forgetNet _ _ from (Or.inl (by omega)))) (show Wr_X11_forgetNet _ _ from (Or.inr (by omega))))
