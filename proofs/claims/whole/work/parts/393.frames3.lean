def Wr_X12_fails (a : Nat) (j : Int) : Prop := (a = 94 ∧ j = 2)
theorem fr_X12_fails {N : Nat} {v1 : Int} {σ : Sto} {res : Int × Sto} (hF : F_X12_fails N v1 σ = some res) : Fr (Wr_X12_fails) σ res.2 := by
  unfold F_X12_fails at hF
  obtain rfl := Option.some.inj hF
  exact (Fr_up Fr.rf (show Wr_X12_fails _ _ from (by unfold Wr_X12_fails; omega)))
def Wr_X12_member (a : Nat) (j : Int) : Prop := (a = 94 ∧ j = 2)
theorem fr_X12_member_J85 {N : Nat}  {nx57 : (Int × Int) → Option (Int × Sto)} {v1 : Int} {v4 : Int} {t0 : Int} {t1 : Int} {σ : Sto} {res : Int × Sto} (hnx57 : ∀ q, nx57 q = some res → Fr (Wr_X12_member) σ res.2) (hF : F_X12_member_J85 N nx57 v1 v4 t0 t1 σ = some res) : Fr (Wr_X12_member) σ res.2 := by
  unfold F_X12_member_J85 at hF
  exact hnx57 _ hF
theorem fr_X12_member_B57 {N : Nat}  {nx57 : (Int × Int) → Option (Int × Sto)} {v1 : Int} {v3 : Int} {v4 : Int} {σ : Sto} {res : Int × Sto} (hnx57 : ∀ q, nx57 q = some res → Fr (Wr_X12_member) σ res.2) (hF : F_X12_member_B57 N nx57 v1 v3 v4 σ = some res) : Fr (Wr_X12_member) σ res.2 := by
  unfold F_X12_member_B57 at hF
  by_cases c6 : (σ.1 94 14) ≤ v4
  · have hF := (if_pos c6).symm.trans hF
    obtain rfl := Option.some.inj hF
    exact Fr.rf
  · have hF := (if_neg c6).symm.trans hF
    obtain ⟨q7, eq7, hF⟩ := bind_some' hF
    by_cases c8 : q7 = v1
    · have hF := (if_pos c8).symm.trans hF
      exact fr_X12_member_J85 hnx57 hF
    · have hF := (if_neg c8).symm.trans hF
      exact fr_X12_member_J85 hnx57 hF
theorem fr_X12_member {N : Nat} {v1 : Int} {v2 : Int} {σ : Sto} {res : Int × Sto} (hF : F_X12_member N v1 v2 σ = some res) : Fr (Wr_X12_member) σ res.2 := by
  unfold F_X12_member at hF
  obtain ⟨q1, eq1, hF⟩ := bind_some' hF
  by_cases c2 : q1 = 0
  · have hF := (if_pos c2).symm.trans hF
    obtain ⟨q11, eq11, hF⟩ := bind_some' hF
    obtain rfl := Option.some.inj hF
    exact (Fr_tr (Fr_up Fr.rf (show Wr_X12_member _ _ from (by unfold Wr_X12_member; omega))) (Fr_mono (fr_X12_fails (res := q11) eq11) (fun a j h => by have h : Wr_X12_fails a j := h; unfold Wr_X12_fails at h; unfold Wr_X12_member; (exact (by omega)))))
  · have hF := (if_neg c2).symm.trans hF
    obtain ⟨q3, eq3, hF⟩ := bind_some' hF
    by_cases c4 : q3 = 0
    · have hF := (if_pos c4).symm.trans hF
      obtain ⟨q10, eq10, hF⟩ := bind_some' hF
      obtain rfl := Option.some.inj hF
      exact (Fr_tr (Fr_up Fr.rf (show Wr_X12_member _ _ from (by unfold Wr_X12_member; omega))) (Fr_mono (fr_X12_fails (res := q10) eq10) (fun a j h => by have h : Wr_X12_fails a j := h; unfold Wr_X12_fails at h; unfold Wr_X12_member; (exact (by omega)))))
    · have hF := (if_neg c4).symm.trans hF
      by_cases c5 : 2 ≤ v2
      · have hF := (if_pos c5).symm.trans hF
        exact Fr_tr (Fr_up Fr.rf (show Wr_X12_member _ _ from (by unfold Wr_X12_member; omega))) (loopK_ind (res := res) (P := fun (q : Int × Int) => Fr (Wr_X12_member) (upI σ 94 2 0) res.2) (fun nx q hn hF => fr_X12_member_B57 hn hF) N (0, 0) hF)
      · have hF := (if_neg c5).symm.trans hF
        obtain ⟨b9, hF⟩ := inb_some hF
        obtain rfl := Option.some.inj hF
        exact (Fr_up Fr.rf (show Wr_X12_member _ _ from (by unfold Wr_X12_member; omega)))
def Wr_X12_period (a : Nat) (j : Int) : Prop := (a = 94 ∧ j = 2)
theorem fr_X12_period {N : Nat} {v1 : Int} {v2 : Int} {σ : Sto} {res : Int × Sto} (hF : F_X12_period N v1 v2 σ = some res) : Fr (Wr_X12_period) σ res.2 := by
  unfold F_X12_period at hF
  obtain ⟨q1, eq1, hF⟩ := bind_some' hF
  by_cases c2 : q1 = 0
  · have hF := (if_pos c2).symm.trans hF
    obtain rfl := Option.some.inj hF
    exact (Fr_up Fr.rf (show Wr_X12_period _ _ from (by unfold Wr_X12_period; omega)))
  · have hF := (if_neg c2).symm.trans hF
    obtain ⟨q3, eq3, hF⟩ := bind_some' hF
    by_cases c4 : q3 = 0
    · have hF := (if_pos c4).symm.trans hF
      obtain rfl := Option.some.inj hF
      exact (Fr_up Fr.rf (show Wr_X12_period _ _ from (by unfold Wr_X12_period; omega)))
    · have hF := (if_neg c4).symm.trans hF
      by_cases c5 : 3 ≤ v2
      · have hF := (if_pos c5).symm.trans hF
        by_cases c6 : v2 = 3
        · have hF := (if_pos c6).symm.trans hF
          obtain ⟨q10, eq10, hF⟩ := bind_some' hF
          obtain rfl := Option.some.inj hF
          exact (Fr_up Fr.rf (show Wr_X12_period _ _ from (by unfold Wr_X12_period; omega)))
        · have hF := (if_neg c6).symm.trans hF
          by_cases c7 : v2 = 4
          · have hF := (if_pos c7).symm.trans hF
            obtain ⟨q9, eq9, hF⟩ := bind_some' hF
            obtain rfl := Option.some.inj hF
            exact (Fr_up Fr.rf (show Wr_X12_period _ _ from (by unfold Wr_X12_period; omega)))
          · have hF := (if_neg c7).symm.trans hF
            obtain ⟨q8, eq8, hF⟩ := bind_some' hF
            obtain rfl := Option.some.inj hF
            exact (Fr_up Fr.rf (show Wr_X12_period _ _ from (by unfold Wr_X12_period; omega)))
      · have hF := (if_neg c5).symm.trans hF
        obtain ⟨b11, hF⟩ := inb_some hF
        obtain rfl := Option.some.inj hF
        exact (Fr_up Fr.rf (show Wr_X12_period _ _ from (by unfold Wr_X12_period; omega)))
def Wr_X12_percent (a : Nat) (j : Int) : Prop := (a = 94 ∧ j = 2)
theorem fr_X12_percent_J36 {N : Nat}    {σ : Sto} {res : Int × Sto} (hF : F_X12_percent_J36 N   σ = some res) : Fr (Wr_X12_percent) σ res.2 := by
  unfold F_X12_percent_J36 at hF
  obtain rfl := Option.some.inj hF
  exact Fr.rf
theorem fr_X12_percent {N : Nat} {v1 : Int} {v2 : Int} {v3 : Int} {σ : Sto} {res : Int × Sto} (hF : F_X12_percent N v1 v2 v3 σ = some res) : Fr (Wr_X12_percent) σ res.2 := by
  unfold F_X12_percent at hF
  obtain ⟨q1, eq1, hF⟩ := bind_some' hF
  by_cases c2 : q1 = 0
  · have hF := (if_pos c2).symm.trans hF
    exact Fr_tr (Fr_up Fr.rf (show Wr_X12_percent _ _ from (by unfold Wr_X12_percent; omega))) (fr_X12_percent_J36  hF)
  · have hF := (if_neg c2).symm.trans hF
    by_cases c3 : v1 = v2
    · have hF := (if_pos c3).symm.trans hF
      exact Fr_tr (Fr_up Fr.rf (show Wr_X12_percent _ _ from (by unfold Wr_X12_percent; omega))) (fr_X12_percent_J36  hF)
    · have hF := (if_neg c3).symm.trans hF
      obtain ⟨q4, eq4, hF⟩ := bind_some' hF
      by_cases c5 : q4 = 0
      · have hF := (if_pos c5).symm.trans hF
        exact Fr_tr (Fr_up Fr.rf (show Wr_X12_percent _ _ from (by unfold Wr_X12_percent; omega))) (fr_X12_percent_J36  hF)
      · have hF := (if_neg c5).symm.trans hF
        obtain ⟨q6, eq6, hF⟩ := bind_some' hF
        obtain rfl := Option.some.inj hF
        exact (Fr_up Fr.rf (show Wr_X12_percent _ _ from (by unfold Wr_X12_percent; omega)))
def Wr_X12_share (a : Nat) (j : Int) : Prop := (a = 94 ∧ j = 2) ∨ (a = 102)
theorem fr_X12_share {N : Nat} {v1 : Int} {v2 : Int} {v3 : Int} {σ : Sto} {res : Int × Sto} (hF : F_X12_share N v1 v2 v3 σ = some res) : Fr (Wr_X12_share) σ res.2 := by
  unfold F_X12_share at hF
  obtain ⟨q1, eq1, hF⟩ := bind_some' hF
  by_cases c2 : q1 = 0
  · have hF := (if_pos c2).symm.trans hF
    obtain rfl := Option.some.inj hF
    exact (Fr_up Fr.rf (show Wr_X12_share _ _ from (Or.inl (by omega))))
  · have hF := (if_neg c2).symm.trans hF
    obtain ⟨q3, eq3, hF⟩ := bind_some' hF
    by_cases c4 : q3 = 0
    · have hF := (if_pos c4).symm.trans hF
      obtain rfl := Option.some.inj hF
      exact (Fr_up Fr.rf (show Wr_X12_share _ _ from (Or.inl (by omega))))
    · have hF := (if_neg c4).symm.trans hF
      obtain ⟨q5, eq5, hF⟩ := bind_some' hF
      obtain ⟨b6, hF⟩ := inb_some hF
      obtain rfl := Option.some.inj hF
      exact (Fr_tr (Fr_up Fr.rf (show Wr_X12_share _ _ from (Or.inl (by omega)))) (Fr_mono (fr_X12_laysShares (res := q5) eq5) (fun a j h => by have h : Wr_X12_laysShares a j := h; unfold Wr_X12_laysShares at h; unfold Wr_X12_share; (exact (Or.inr (by omega))))))
def Wr_X12_parts (a : Nat) (j : Int) : Prop := (a = 94 ∧ j = 2) ∨ (a = 102)
theorem fr_X12_parts {N : Nat} {v1 : Int} {v2 : Int} {v3 : Int} {σ : Sto} {res : Int × Sto} (hF : F_X12_parts N v1 v2 v3 σ = some res) : Fr (Wr_X12_parts) σ res.2 := by
  unfold F_X12_parts at hF
  obtain ⟨q1, eq1, hF⟩ := bind_some' hF
  by_cases c2 : q1 = 0
  · have hF := (if_pos c2).symm.trans hF
    obtain rfl := Option.some.inj hF
    exact (Fr_up Fr.rf (show Wr_X12_parts _ _ from (Or.inl (by omega))))
  · have hF := (if_neg c2).symm.trans hF
    obtain ⟨q3, eq3, hF⟩ := bind_some' hF
    by_cases c4 : q3 = 0
    · have hF := (if_pos c4).symm.trans hF
      obtain rfl := Option.some.inj hF
      exact (Fr_up Fr.rf (show Wr_X12_parts _ _ from (Or.inl (by omega))))
    · have hF := (if_neg c4).symm.trans hF
      obtain ⟨q5, eq5, hF⟩ := bind_some' hF
      obtain ⟨b6, hF⟩ := inb_some hF
      obtain ⟨n7, hF⟩ := grd_some hF
      obtain ⟨n8, hF⟩ := grd_some hF
      obtain ⟨n9, hF⟩ := grd_some hF
      obtain rfl := Option.some.inj hF
      exact (Fr_tr (Fr_up Fr.rf (show Wr_X12_parts _ _ from (Or.inl (by omega)))) (Fr_mono (fr_X12_laysShares (res := q5) eq5) (fun a j h => by have h : Wr_X12_laysShares a j := h; unfold Wr_X12_laysShares at h; unfold Wr_X12_parts; (exact (Or.inr (by omega))))))
def Wr_X12_controls (a : Nat) (j : Int) : Prop := (a = 94 ∧ j = 2) ∨ (a = 102)
theorem fr_X12_controls {N : Nat} {v1 : Int} {v2 : Int} {v3 : Int} {σ : Sto} {res : Int × Sto} (hF : F_X12_controls N v1 v2 v3 σ = some res) : Fr (Wr_X12_controls) σ res.2 := by
  unfold F_X12_controls at hF
  obtain ⟨q1, eq1, hF⟩ := bind_some' hF
  by_cases c2 : q1 = 0
  · have hF := (if_pos c2).symm.trans hF
    obtain rfl := Option.some.inj hF
    exact (Fr_up Fr.rf (show Wr_X12_controls _ _ from (Or.inl (by omega))))
  · have hF := (if_neg c2).symm.trans hF
    by_cases c3 : v1 = v2
    · have hF := (if_pos c3).symm.trans hF
      obtain rfl := Option.some.inj hF
      exact (Fr_up Fr.rf (show Wr_X12_controls _ _ from (Or.inl (by omega))))
    · have hF := (if_neg c3).symm.trans hF
      obtain ⟨q4, eq4, hF⟩ := bind_some' hF
      by_cases c5 : q4 = 0
      · have hF := (if_pos c5).symm.trans hF
        obtain rfl := Option.some.inj hF
        exact (Fr_up Fr.rf (show Wr_X12_controls _ _ from (Or.inl (by omega))))
      · have hF := (if_neg c5).symm.trans hF
        obtain ⟨q6, eq6, hF⟩ := bind_some' hF
        obtain ⟨b7, hF⟩ := inb_some hF
        obtain ⟨q8, eq8, hF⟩ := bind_some' hF
        by_cases c9 : q8 = 0
        · have hF := (if_pos c9).symm.trans hF
          obtain rfl := Option.some.inj hF
          exact (Fr_tr (Fr_up Fr.rf (show Wr_X12_controls _ _ from (Or.inl (by omega)))) (Fr_mono (fr_X12_laysShares (res := q6) eq6) (fun a j h => by have h : Wr_X12_laysShares a j := h; unfold Wr_X12_laysShares at h; unfold Wr_X12_controls; (exact (Or.inr (by omega))))))
        · have hF := (if_neg c9).symm.trans hF
          obtain rfl := Option.some.inj hF
          exact (Fr_tr (Fr_up Fr.rf (show Wr_X12_controls _ _ from (Or.inl (by omega)))) (Fr_mono (fr_X12_laysShares (res := q6) eq6) (fun a j h => by have h : Wr_X12_laysShares a j := h; unfold Wr_X12_laysShares at h; unfold Wr_X12_controls; (exact (Or.inr (by omega))))))
def Wr_X12_related (a : Nat) (j : Int) : Prop := (a = 94 ∧ j = 2) ∨ (a = 102)
theorem fr_X12_related {N : Nat} {v1 : Int} {v2 : Int} {σ : Sto} {res : Int × Sto} (hF : F_X12_related N v1 v2 σ = some res) : Fr (Wr_X12_related) σ res.2 := by
  unfold F_X12_related at hF
  obtain ⟨q1, eq1, hF⟩ := bind_some' hF
  by_cases c2 : q1 = 0
  · have hF := (if_pos c2).symm.trans hF
    obtain rfl := Option.some.inj hF
    exact (Fr_up Fr.rf (show Wr_X12_related _ _ from (Or.inl (by omega))))
  · have hF := (if_neg c2).symm.trans hF
    obtain ⟨q3, eq3, hF⟩ := bind_some' hF
    by_cases c4 : q3 = 0
    · have hF := (if_pos c4).symm.trans hF
      obtain rfl := Option.some.inj hF
      exact (Fr_up Fr.rf (show Wr_X12_related _ _ from (Or.inl (by omega))))
    · have hF := (if_neg c4).symm.trans hF
      obtain ⟨q5, eq5, hF⟩ := bind_some' hF
      obtain ⟨q6, eq6, hF⟩ := bind_some' hF
      obtain rfl := Option.some.inj hF
      exact (Fr_tr (Fr_up Fr.rf (show Wr_X12_related _ _ from (Or.inl (by omega)))) (Fr_mono (fr_X12_laysShares (res := q5) eq5) (fun a j h => by have h : Wr_X12_laysShares a j := h; unfold Wr_X12_laysShares at h; unfold Wr_X12_related; (exact (Or.inr (by omega))))))
def Wr_X12_groups (a : Nat) (j : Int) : Prop := (a = 94 ∧ j = 2) ∨ (a = 102)
theorem fr_X12_groups_J123 {N : Nat}  {nx26 : (Int × Int × Int) → Option (Int × Sto)} {v2 : Int} {v3 : Int} {v4 : Int} {σ : Sto} {res : Int × Sto} (hnx26 : ∀ q, nx26 q = some res → Fr (Wr_X12_groups) σ res.2) (hF : F_X12_groups_J123 N nx26 v2 v3 v4 σ = some res) : Fr (Wr_X12_groups) σ res.2 := by
  unfold F_X12_groups_J123 at hF
  exact hnx26 _ hF
theorem fr_X12_groups_J118 {N : Nat}  {nx26 : (Int × Int × Int) → Option (Int × Sto)} {v2 : Int} {v3 : Int} {v4 : Int} {v5 : Int} {σ : Sto} {res : Int × Sto} (hnx26 : ∀ q, nx26 q = some res → Fr (Wr_X12_groups) σ res.2) (hF : F_X12_groups_J118 N nx26 v2 v3 v4 v5 σ = some res) : Fr (Wr_X12_groups) σ res.2 := by
  unfold F_X12_groups_J118 at hF
  exact fr_X12_groups_J123 hnx26 hF
theorem fr_X12_groups_J115 {N : Nat}  {nx26 : (Int × Int × Int) → Option (Int × Sto)} {nx60 : (Int × Int) → Option (Int × Sto)} {v2 : Int} {v3 : Int} {v4 : Int} {v5 : Int} {v6 : Int} {σ : Sto} {res : Int × Sto} (hnx26 : ∀ q, nx26 q = some res → Fr (Wr_X12_groups) σ res.2) (hnx60 : ∀ q, nx60 q = some res → Fr (Wr_X12_groups) σ res.2) (hF : F_X12_groups_J115 N nx26 nx60 v2 v3 v4 v5 v6 σ = some res) : Fr (Wr_X12_groups) σ res.2 := by
  unfold F_X12_groups_J115 at hF
  exact hnx60 _ hF
theorem fr_X12_groups_J106 {N : Nat}  {nx26 : (Int × Int × Int) → Option (Int × Sto)} {nx60 : (Int × Int) → Option (Int × Sto)} {nx74 : (Int × Int) → Option (Int × Sto)} {v2 : Int} {v3 : Int} {v4 : Int} {v6 : Int} {v7 : Int} {t0 : Int} {t1 : Int} {σ : Sto} {res : Int × Sto} (hnx26 : ∀ q, nx26 q = some res → Fr (Wr_X12_groups) σ res.2) (hnx60 : ∀ q, nx60 q = some res → Fr (Wr_X12_groups) σ res.2) (hnx74 : ∀ q, nx74 q = some res → Fr (Wr_X12_groups) σ res.2) (hF : F_X12_groups_J106 N nx26 nx60 nx74 v2 v3 v4 v6 v7 t0 t1 σ = some res) : Fr (Wr_X12_groups) σ res.2 := by
  unfold F_X12_groups_J106 at hF
  exact hnx74 _ hF
theorem fr_X12_groups_B74 {N : Nat}  {nx26 : (Int × Int × Int) → Option (Int × Sto)} {nx60 : (Int × Int) → Option (Int × Sto)} {nx74 : (Int × Int) → Option (Int × Sto)} {v2 : Int} {v3 : Int} {v4 : Int} {v6 : Int} {v5 : Int} {v7 : Int} {σ : Sto} {res : Int × Sto} (hnx26 : ∀ q, nx26 q = some res → Fr (Wr_X12_groups) σ res.2) (hnx60 : ∀ q, nx60 q = some res → Fr (Wr_X12_groups) σ res.2) (hnx74 : ∀ q, nx74 q = some res → Fr (Wr_X12_groups) σ res.2) (hF : F_X12_groups_B74 N nx26 nx60 nx74 v2 v3 v4 v6 v5 v7 σ = some res) : Fr (Wr_X12_groups) σ res.2 := by
  unfold F_X12_groups_B74 at hF
  by_cases c7 : (σ.1 94 11) ≤ v7
  · have hF := (if_pos c7).symm.trans hF
    exact fr_X12_groups_J115 hnx26 hnx60 hF
  · have hF := (if_neg c7).symm.trans hF
    by_cases c8 : (jand (jshr v6 v7) 1) = 1
    · have hF := (if_pos c8).symm.trans hF
      obtain ⟨q9, eq9, hF⟩ := bind_some' hF
      exact fr_X12_groups_J106 hnx26 hnx60 hnx74 hF
    · have hF := (if_neg c8).symm.trans hF
      exact fr_X12_groups_J106 hnx26 hnx60 hnx74 hF
theorem fr_X12_groups_B60 {N : Nat}  {nx26 : (Int × Int × Int) → Option (Int × Sto)} {nx60 : (Int × Int) → Option (Int × Sto)} {v2 : Int} {v3 : Int} {v4 : Int} {v5 : Int} {v6 : Int} {σ : Sto} {res : Int × Sto} (hnx26 : ∀ q, nx26 q = some res → Fr (Wr_X12_groups) σ res.2) (hnx60 : ∀ q, nx60 q = some res → Fr (Wr_X12_groups) σ res.2) (hF : F_X12_groups_B60 N nx26 nx60 v2 v3 v4 v5 v6 σ = some res) : Fr (Wr_X12_groups) σ res.2 := by
  unfold F_X12_groups_B60 at hF
  by_cases c6 : v5 = v6
  · have hF := (if_pos c6).symm.trans hF
    exact fr_X12_groups_J118 hnx26 hF
  · have hF := (if_neg c6).symm.trans hF
    exact (loopK_ind (res := res) (P := fun (q : Int × Int) => Fr (Wr_X12_groups) σ res.2) (fun nx q hn hF => fr_X12_groups_B74 hnx26 hnx60 hn hF) N (v5, 0) hF)
theorem fr_X12_groups_B26 {N : Nat}  {nx26 : (Int × Int × Int) → Option (Int × Sto)} {v2 : Int} {v3 : Int} {v4 : Int} {σ : Sto} {res : Int × Sto} (hnx26 : ∀ q, nx26 q = some res → Fr (Wr_X12_groups) σ res.2) (hF : F_X12_groups_B26 N nx26 v2 v3 v4 σ = some res) : Fr (Wr_X12_groups) σ res.2 := by
  unfold F_X12_groups_B26 at hF
  by_cases c4 : (σ.1 94 11) ≤ v4
  · have hF := (if_pos c4).symm.trans hF
    obtain rfl := Option.some.inj hF
    exact Fr.rf
  · have hF := (if_neg c4).symm.trans hF
    by_cases c5 : (jand (jshr v2 v4) 1) = 1
    · have hF := (if_pos c5).symm.trans hF
      exact fr_X12_groups_J123 hnx26 hF
    · have hF := (if_neg c5).symm.trans hF
      exact (loopK_ind (res := res) (P := fun (q : Int × Int) => Fr (Wr_X12_groups) σ res.2) (fun nx q hn hF => fr_X12_groups_B60 hnx26 hn hF) N ((jshl 1 v4), 0) hF)
theorem fr_X12_groups {N : Nat} {v1 : Int} {σ : Sto} {res : Int × Sto} (hF : F_X12_groups N v1 σ = some res) : Fr (Wr_X12_groups) σ res.2 := by
  unfold F_X12_groups at hF
  obtain ⟨q1, eq1, hF⟩ := bind_some' hF
  by_cases c2 : q1 = 0
  · have hF := (if_pos c2).symm.trans hF
    obtain rfl := Option.some.inj hF
    exact (Fr_up Fr.rf (show Wr_X12_groups _ _ from (Or.inl (by omega))))
  · have hF := (if_neg c2).symm.trans hF
    obtain ⟨q3, eq3, hF⟩ := bind_some' hF
    exact Fr_tr (Fr_tr (Fr_up Fr.rf (show Wr_X12_groups _ _ from (Or.inl (by omega)))) (Fr_mono (fr_X12_laysShares (res := q3) eq3) (fun a j h => by have h : Wr_X12_laysShares a j := h; unfold Wr_X12_laysShares at h; unfold Wr_X12_groups; (exact (Or.inr (by omega)))))) (loopK_ind (res := res) (P := fun (q : Int × Int × Int) => Fr (Wr_X12_groups) q3 res.2) (fun nx q hn hF => fr_X12_groups_B26 hn hF) N (0, 0, 0) hF)
def Wr_X12_shared (a : Nat) (j : Int) : Prop := (a = 94 ∧ j = 2) ∨ (a = 94 ∧ j = 30) ∨ ((102 ≤ a ∧ a ≤ 104))
theorem fr_X12_shared {N : Nat} {v1 : Int} {v2 : Int} {σ : Sto} {res : Int × Sto} (hF : F_X12_shared N v1 v2 σ = some res) : Fr (Wr_X12_shared) σ res.2 := by
  unfold F_X12_shared at hF
  obtain ⟨q1, eq1, hF⟩ := bind_some' hF
  by_cases c2 : q1 = 0
  · have hF := (if_pos c2).symm.trans hF
    obtain rfl := Option.some.inj hF
    exact (Fr_up Fr.rf (show Wr_X12_shared _ _ from (Or.inl (by omega))))
  · have hF := (if_neg c2).symm.trans hF
    obtain ⟨q3, eq3, hF⟩ := bind_some' hF
    by_cases c4 : q3 = 0
    · have hF := (if_pos c4).symm.trans hF
      obtain rfl := Option.some.inj hF
      exact (Fr_up Fr.rf (show Wr_X12_shared _ _ from (Or.inl (by omega))))
    · have hF := (if_neg c4).symm.trans hF
      obtain ⟨q5, eq5, hF⟩ := bind_some' hF
      obtain ⟨q6, eq6, hF⟩ := bind_some' hF
      by_cases c7 : q5 = q6
      · have hF := (if_pos c7).symm.trans hF
        obtain rfl := Option.some.inj hF
        exact (Fr_up Fr.rf (show Wr_X12_shared _ _ from (Or.inl (by omega))))
      · have hF := (if_neg c7).symm.trans hF
        obtain ⟨b8, hF⟩ := inb_some hF
        obtain ⟨q9, eq9, hF⟩ := bind_some' hF
        obtain ⟨q10, eq10, hF⟩ := bind_some' hF
        obtain rfl := Option.some.inj hF
        exact (Fr_tr (Fr_up Fr.rf (show Wr_X12_shared _ _ from (Or.inl (by omega)))) (Fr_mono (fr_X12_laysStretches (res := q9) eq9) (fun a j h => by
      unfold Wr_X12_laysStretches at h
      unfold Wr_X12_shared
      rcases h with h | h
      · exact (Or.inr (Or.inl (by omega)))
      · exact (Or.inr (Or.inr (by omega))))))
def Wr_X12_bound (a : Nat) (j : Int) : Prop := (a = 94 ∧ j = 2) ∨ (a = 94 ∧ j = 30) ∨ ((102 ≤ a ∧ a ≤ 104))
theorem fr_X12_bound {N : Nat} {v1 : Int} {v2 : Int} {σ : Sto} {res : Int × Sto} (hF : F_X12_bound N v1 v2 σ = some res) : Fr (Wr_X12_bound) σ res.2 := by
  unfold F_X12_bound at hF
  obtain ⟨q1, eq1, hF⟩ := bind_some' hF
  by_cases c2 : q1 = 0
  · have hF := (if_pos c2).symm.trans hF
    obtain rfl := Option.some.inj hF
    exact (Fr_up Fr.rf (show Wr_X12_bound _ _ from (Or.inl (by omega))))
  · have hF := (if_neg c2).symm.trans hF
    obtain ⟨b3, hF⟩ := inb_some hF
    obtain ⟨q4, eq4, hF⟩ := bind_some' hF
    obtain ⟨q5, eq5, hF⟩ := bind_some' hF
    obtain rfl := Option.some.inj hF
    exact (Fr_tr (Fr_up Fr.rf (show Wr_X12_bound _ _ from (Or.inl (by omega)))) (Fr_mono (fr_X12_laysStretches (res := q4) eq4) (fun a j h => by
      unfold Wr_X12_laysStretches at h
      unfold Wr_X12_bound
      rcases h with h | h
      · exact (Or.inr (Or.inl (by omega)))
      · exact (Or.inr (Or.inr (by omega))))))
def Wr_X12_room (a : Nat) (j : Int) : Prop := (a = 94 ∧ j = 2) ∨ (a = 94 ∧ j = 30) ∨ ((102 ≤ a ∧ a ≤ 104))
theorem fr_X12_room {N : Nat} {v1 : Int} {v2 : Int} {σ : Sto} {res : Int × Sto} (hF : F_X12_room N v1 v2 σ = some res) : Fr (Wr_X12_room) σ res.2 := by
  unfold F_X12_room at hF
  obtain ⟨q1, eq1, hF⟩ := bind_some' hF
  by_cases c2 : q1 = 0
  · have hF := (if_pos c2).symm.trans hF
    obtain rfl := Option.some.inj hF
    exact (Fr_up Fr.rf (show Wr_X12_room _ _ from (Or.inl (by omega))))
  · have hF := (if_neg c2).symm.trans hF
    obtain ⟨b3, hF⟩ := inb_some hF
    obtain ⟨q4, eq4, hF⟩ := bind_some' hF
    obtain ⟨q5, eq5, hF⟩ := bind_some' hF
    obtain ⟨q6, eq6, hF⟩ := bind_some' hF
    obtain rfl := Option.some.inj hF
    exact (Fr_tr (Fr_up Fr.rf (show Wr_X12_room _ _ from (Or.inl (by omega)))) (Fr_mono (fr_X12_laysStretches (res := q4) eq4) (fun a j h => by
      unfold Wr_X12_laysStretches at h
      unfold Wr_X12_room
      rcases h with h | h
      · exact (Or.inr (Or.inl (by omega)))
      · exact (Or.inr (Or.inr (by omega))))))
def Wr_X12_price (a : Nat) (j : Int) : Prop := (a = 94 ∧ j = 2)
theorem fr_X12_price {N : Nat} {v1 : Int} {v2 : Int} {σ : Sto} {res : Int × Sto} (hF : F_X12_price N v1 v2 σ = some res) : Fr (Wr_X12_price) σ res.2 := by
  unfold F_X12_price at hF
  obtain ⟨q1, eq1, hF⟩ := bind_some' hF
  by_cases c2 : q1 = 0
  · have hF := (if_pos c2).symm.trans hF
    obtain rfl := Option.some.inj hF
    exact (Fr_up Fr.rf (show Wr_X12_price _ _ from (by unfold Wr_X12_price; omega)))
  · have hF := (if_neg c2).symm.trans hF
    obtain ⟨q3, eq3, hF⟩ := bind_some' hF
    obtain rfl := Option.some.inj hF
    exact (Fr_up Fr.rf (show Wr_X12_price _ _ from (by unfold Wr_X12_price; omega)))
def Wr_X12_relief (a : Nat) (j : Int) : Prop := (a = 94 ∧ j = 2) ∨ (a = 94 ∧ j = 30) ∨ (a = 94 ∧ j = 37) ∨ ((102 ≤ a ∧ a ≤ 110))
theorem fr_X12_relief {N : Nat} {v1 : Int} {v2 : Int} {σ : Sto} {res : Int × Sto} (hF : F_X12_relief N v1 v2 σ = some res) : Fr (Wr_X12_relief) σ res.2 := by
  unfold F_X12_relief at hF
  obtain ⟨q1, eq1, hF⟩ := bind_some' hF
  by_cases c2 : q1 = 0
  · have hF := (if_pos c2).symm.trans hF
    obtain rfl := Option.some.inj hF
    exact (Fr_up Fr.rf (show Wr_X12_relief _ _ from (Or.inl (by omega))))
  · have hF := (if_neg c2).symm.trans hF
    obtain ⟨q3, eq3, hF⟩ := bind_some' hF
    obtain ⟨b4, hF⟩ := inb_some hF
    obtain rfl := Option.some.inj hF
    exact (Fr_tr (Fr_up Fr.rf (show Wr_X12_relief _ _ from (Or.inl (by omega)))) (Fr_mono (fr_X12_solves (res := q3) eq3) (fun a j h => by
      unfold Wr_X12_solves at h
      unfold Wr_X12_relief
      rcases h with h | h | h
      · exact (Or.inr (Or.inl (by omega)))
      · exact (Or.inr (Or.inr (Or.inl (by omega))))
      · exact (Or.inr (Or.inr (Or.inr (by omega)))))))
def Wr_X12_solved (a : Nat) (j : Int) : Prop := (a = 94 ∧ j = 2) ∨ (a = 94 ∧ j = 30) ∨ (a = 94 ∧ j = 37) ∨ ((102 ≤ a ∧ a ≤ 110))
theorem fr_X12_solved_J106 {N : Nat}   {v1 : Int} {v3 : Int} {v5 : Int} {σ : Sto} {res : Int × Sto} (hF : F_X12_solved_J106 N  v1 v3 v5 σ = some res) : Fr (Wr_X12_solved) σ res.2 := by
  unfold F_X12_solved_J106 at hF
  by_cases c6 : v1 = 1
  · have hF := (if_pos c6).symm.trans hF
    obtain rfl := Option.some.inj hF
    exact Fr.rf
  · have hF := (if_neg c6).symm.trans hF
    obtain rfl := Option.some.inj hF
    exact Fr.rf
theorem fr_X12_solved_J100 {N : Nat}  {nx49 : (Int × Int × Int) → Option (Int × Sto)} {v1 : Int} {v3 : Int} {v5 : Int} {v6 : Int} {σ : Sto} {res : Int × Sto} (hnx49 : ∀ q, nx49 q = some res → Fr (Wr_X12_solved) σ res.2) (hF : F_X12_solved_J100 N nx49 v1 v3 v5 v6 σ = some res) : Fr (Wr_X12_solved) σ res.2 := by
  unfold F_X12_solved_J100 at hF
  exact hnx49 _ hF
theorem fr_X12_solved_B49 {N : Nat}  {nx49 : (Int × Int × Int) → Option (Int × Sto)} {v1 : Int} {v3 : Int} {v5 : Int} {v6 : Int} {σ : Sto} {res : Int × Sto} (hnx49 : ∀ q, nx49 q = some res → Fr (Wr_X12_solved) σ res.2) (hF : F_X12_solved_B49 N nx49 v1 v3 v5 v6 σ = some res) : Fr (Wr_X12_solved) σ res.2 := by
  unfold F_X12_solved_B49 at hF
  by_cases c7 : 144 ≤ v6
  · have hF := (if_pos c7).symm.trans hF
    exact fr_X12_solved_J106  hF
  · have hF := (if_neg c7).symm.trans hF
    obtain ⟨b8, hF⟩ := inb_some hF
    by_cases c9 : (σ.1 107 v6) = 0
    · have hF := (if_pos c9).symm.trans hF
      exact fr_X12_solved_J100 hnx49 hF
    · have hF := (if_neg c9).symm.trans hF
      obtain ⟨q10, eq10, hF⟩ := bind_some' hF
      exact fr_X12_solved_J100 hnx49 hF
theorem fr_X12_solved {N : Nat} {v1 : Int} {σ : Sto} {res : Int × Sto} (hF : F_X12_solved N v1 σ = some res) : Fr (Wr_X12_solved) σ res.2 := by
  unfold F_X12_solved at hF
  obtain ⟨q1, eq1, hF⟩ := bind_some' hF
  by_cases c2 : q1 = 0
  · have hF := (if_pos c2).symm.trans hF
    obtain rfl := Option.some.inj hF
    exact (Fr_up Fr.rf (show Wr_X12_solved _ _ from (Or.inl (by omega))))
  · have hF := (if_neg c2).symm.trans hF
    obtain ⟨q3, eq3, hF⟩ := bind_some' hF
    by_cases c4 : v1 = 0
    · have hF := (if_pos c4).symm.trans hF
      obtain rfl := Option.some.inj hF
      exact (Fr_tr (Fr_up Fr.rf (show Wr_X12_solved _ _ from (Or.inl (by omega)))) (Fr_mono (fr_X12_solves (res := q3) eq3) (fun a j h => by
      unfold Wr_X12_solves at h
      unfold Wr_X12_solved
      rcases h with h | h | h
      · exact (Or.inr (Or.inl (by omega)))
      · exact (Or.inr (Or.inr (Or.inl (by omega))))
      · exact (Or.inr (Or.inr (Or.inr (by omega)))))))
    · have hF := (if_neg c4).symm.trans hF
      by_cases c5 : v1 = 2
      · have hF := (if_pos c5).symm.trans hF
        obtain rfl := Option.some.inj hF
        exact (Fr_tr (Fr_up Fr.rf (show Wr_X12_solved _ _ from (Or.inl (by omega)))) (Fr_mono (fr_X12_solves (res := q3) eq3) (fun a j h => by
      unfold Wr_X12_solves at h
      unfold Wr_X12_solved
      rcases h with h | h | h
      · exact (Or.inr (Or.inl (by omega)))
      · exact (Or.inr (Or.inr (Or.inl (by omega))))
      · exact (Or.inr (Or.inr (Or.inr (by omega)))))))
      · have hF := (if_neg c5).symm.trans hF
        exact Fr_tr (Fr_tr (Fr_up Fr.rf (show Wr_X12_solved _ _ from (Or.inl (by omega)))) (Fr_mono (fr_X12_solves (res := q3) eq3) (fun a j h => by
      unfold Wr_X12_solves at h
      unfold Wr_X12_solved
      rcases h with h | h | h
      · exact (Or.inr (Or.inl (by omega)))
      · exact (Or.inr (Or.inr (Or.inl (by omega))))
      · exact (Or.inr (Or.inr (Or.inr (by omega))))))) (loopK_ind (res := res) (P := fun (q : Int × Int × Int) => Fr (Wr_X12_solved) q3.2 res.2) (fun nx q hn hF => fr_X12_solved_B49 hn hF) N (0, 0, 0) hF)
def Wr_X12_reached (a : Nat) (j : Int) : Prop := (a = 94 ∧ j = 2) ∨ (a = 94 ∧ j = 30) ∨ (a = 94 ∧ j = 37) ∨ ((102 ≤ a ∧ a ≤ 110))
theorem fr_X12_reached_J43 {N : Nat}  {nx18 : (Int × Int) → Option (Int × Sto)} {v2 : Int} {t0 : Int} {t1 : Int} {σ : Sto} {res : Int × Sto} (hnx18 : ∀ q, nx18 q = some res → Fr (Wr_X12_reached) σ res.2) (hF : F_X12_reached_J43 N nx18 v2 t0 t1 σ = some res) : Fr (Wr_X12_reached) σ res.2 := by
  unfold F_X12_reached_J43 at hF
  exact hnx18 _ hF
theorem fr_X12_reached_B18 {N : Nat}  {nx18 : (Int × Int) → Option (Int × Sto)} {v1 : Int} {v2 : Int} {σ : Sto} {res : Int × Sto} (hnx18 : ∀ q, nx18 q = some res → Fr (Wr_X12_reached) σ res.2) (hF : F_X12_reached_B18 N nx18 v1 v2 σ = some res) : Fr (Wr_X12_reached) σ res.2 := by
  unfold F_X12_reached_B18 at hF
  by_cases c3 : (σ.1 94 14) ≤ v2
  · have hF := (if_pos c3).symm.trans hF
    obtain rfl := Option.some.inj hF
    exact Fr.rf
  · have hF := (if_neg c3).symm.trans hF
    obtain ⟨b4, hF⟩ := inb_some hF
    by_cases c5 : (σ.1 109 v2) ≤ 0
    · have hF := (if_pos c5).symm.trans hF
      exact fr_X12_reached_J43 hnx18 hF
    · have hF := (if_neg c5).symm.trans hF
      exact fr_X12_reached_J43 hnx18 hF
theorem fr_X12_reached {N : Nat}  {σ : Sto} {res : Int × Sto} (hF : F_X12_reached N  σ = some res) : Fr (Wr_X12_reached) σ res.2 := by
  unfold F_X12_reached at hF
  obtain ⟨q1, eq1, hF⟩ := bind_some' hF
  obtain ⟨q2, eq2, hF⟩ := bind_some' hF
  exact Fr_tr (Fr_tr (Fr_tr (Fr_up Fr.rf (show Wr_X12_reached _ _ from (Or.inl (by omega)))) (Fr_mono (fr_X12_solves (res := q1) eq1) (fun a j h => by
      unfold Wr_X12_solves at h
      unfold Wr_X12_reached
      rcases h with h | h | h
      · exact (Or.inr (Or.inl (by omega)))
      · exact (Or.inr (Or.inr (Or.inl (by omega))))
      · exact (Or.inr (Or.inr (Or.inr (by omega))))))) (Fr_mono (fr_X12_laysRoutes (res := q2) eq2) (fun a j h => by have h : Wr_X12_laysRoutes a j := h; unfold Wr_X12_laysRoutes at h; unfold Wr_X12_reached; (exact (Or.inr (Or.inr (Or.inr (by omega)))))))) (loopK_ind (res := res) (P := fun (q : Int × Int) => Fr (Wr_X12_reached) q2 res.2) (fun nx q hn hF => fr_X12_reached_B18 hn hF) N (0, 0) hF)
def Wr_X12_left (a : Nat) (j : Int) : Prop := (a = 94 ∧ j = 2) ∨ (a = 94 ∧ j = 30) ∨ (a = 94 ∧ j = 37) ∨ ((102 ≤ a ∧ a ≤ 110))
theorem fr_X12_left {N : Nat} {v1 : Int} {σ : Sto} {res : Int × Sto} (hF : F_X12_left N v1 σ = some res) : Fr (Wr_X12_left) σ res.2 := by
  unfold F_X12_left at hF
  obtain ⟨q1, eq1, hF⟩ := bind_some' hF
  by_cases c2 : q1 = 0
  · have hF := (if_pos c2).symm.trans hF
    obtain rfl := Option.some.inj hF
    exact (Fr_up Fr.rf (show Wr_X12_left _ _ from (Or.inl (by omega))))
  · have hF := (if_neg c2).symm.trans hF
    obtain ⟨q3, eq3, hF⟩ := bind_some' hF
    obtain ⟨b4, hF⟩ := inb_some hF
    obtain rfl := Option.some.inj hF
    exact (Fr_tr (Fr_up Fr.rf (show Wr_X12_left _ _ from (Or.inl (by omega)))) (Fr_mono (fr_X12_solves (res := q3) eq3) (fun a j h => by
      unfold Wr_X12_solves at h
      unfold Wr_X12_left
      rcases h with h | h | h
      · exact (Or.inr (Or.inl (by omega)))
      · exact (Or.inr (Or.inr (Or.inl (by omega))))
      · exact (Or.inr (Or.inr (Or.inr (by omega)))))))
def Wr_X12_pays (a : Nat) (j : Int) : Prop := (a = 94 ∧ j = 2) ∨ (a = 94 ∧ j = 30) ∨ (a = 94 ∧ j = 37) ∨ ((102 ≤ a ∧ a ≤ 110))
theorem fr_X12_pays_J194 {N : Nat}  {nx127 : (Int × Int) → Option (Int × Sto)} {v1 : Int} {v2 : Int} {v3 : Int} {v4 : Int} {σ : Sto} {res : Int × Sto} (hnx127 : ∀ q, nx127 q = some res → Fr (Wr_X12_pays) σ res.2) (hF : F_X12_pays_J194 N nx127 v1 v2 v3 v4 σ = some res) : Fr (Wr_X12_pays) σ res.2 := by
  unfold F_X12_pays_J194 at hF
  exact hnx127 _ hF
theorem fr_X12_pays_J163 {N : Nat}  {nx127 : (Int × Int) → Option (Int × Sto)} {v1 : Int} {v2 : Int} {v3 : Int} {v4 : Int} {t1 : Int} {σ : Sto} {res : Int × Sto} (hnx127 : ∀ q, nx127 q = some res → Fr (Wr_X12_pays) σ res.2) (hF : F_X12_pays_J163 N nx127 v1 v2 v3 v4 t1 σ = some res) : Fr (Wr_X12_pays) σ res.2 := by
  unfold F_X12_pays_J163 at hF
  obtain ⟨q10, eq10, hF⟩ := bind_some' hF
  by_cases c11 : q10 = v1
  · have hF := (if_pos c11).symm.trans hF
    obtain ⟨b12, hF⟩ := inb_some hF
    obtain ⟨q13, eq13, hF⟩ := bind_some' hF
    exact fr_X12_pays_J194 hnx127 hF
  · have hF := (if_neg c11).symm.trans hF
    exact fr_X12_pays_J194 hnx127 hF
theorem fr_X12_pays_B127 {N : Nat}  {nx127 : (Int × Int) → Option (Int × Sto)} {v1 : Int} {v2 : Int} {v3 : Int} {v4 : Int} {σ : Sto} {res : Int × Sto} (hnx127 : ∀ q, nx127 q = some res → Fr (Wr_X12_pays) σ res.2) (hF : F_X12_pays_B127 N nx127 v1 v2 v3 v4 σ = some res) : Fr (Wr_X12_pays) σ res.2 := by
  unfold F_X12_pays_B127 at hF
  by_cases c7 : 144 ≤ v4
  · have hF := (if_pos c7).symm.trans hF
    obtain rfl := Option.some.inj hF
    exact Fr.rf
  · have hF := (if_neg c7).symm.trans hF
    obtain ⟨b8, hF⟩ := inb_some hF
    by_cases c9 : (σ.1 107 v4) ≤ 0
    · have hF := (if_pos c9).symm.trans hF
      exact fr_X12_pays_J194 hnx127 hF
    · have hF := (if_neg c9).symm.trans hF
      by_cases c14 : v2 = 0
      · have hF := (if_pos c14).symm.trans hF
        exact fr_X12_pays_J163 hnx127 hF
      · have hF := (if_neg c14).symm.trans hF
        exact fr_X12_pays_J163 hnx127 hF
theorem fr_X12_pays_J109 {N : Nat}  {nx34 : (Int × Int) → Option (Int × Sto)} {v1 : Int} {v2 : Int} {v4 : Int} {t0 : Int} {t1 : Int} {σ : Sto} {res : Int × Sto} (hnx34 : ∀ q, nx34 q = some res → Fr (Wr_X12_pays) σ res.2) (hF : F_X12_pays_J109 N nx34 v1 v2 v4 t0 t1 σ = some res) : Fr (Wr_X12_pays) σ res.2 := by
  unfold F_X12_pays_J109 at hF
  exact hnx34 _ hF
theorem fr_X12_pays_J69 {N : Nat}  {nx34 : (Int × Int) → Option (Int × Sto)} {v1 : Int} {v2 : Int} {v4 : Int} {v5 : Int} {t0 : Int} {t3 : Int} {σ : Sto} {res : Int × Sto} (hnx34 : ∀ q, nx34 q = some res → Fr (Wr_X12_pays) σ res.2) (hF : F_X12_pays_J69 N nx34 v1 v2 v4 v5 t0 t3 σ = some res) : Fr (Wr_X12_pays) σ res.2 := by
  unfold F_X12_pays_J69 at hF
  obtain ⟨q17, eq17, hF⟩ := bind_some' hF
  obtain ⟨q18, eq18, hF⟩ := bind_some' hF
  by_cases c19 : q18 = v1
  · have hF := (if_pos c19).symm.trans hF
    obtain ⟨q20, eq20, hF⟩ := bind_some' hF
    obtain ⟨q21, eq21, hF⟩ := bind_some' hF
    obtain ⟨q22, eq22, hF⟩ := bind_some' hF
    obtain ⟨q23, eq23, hF⟩ := bind_some' hF
    exact fr_X12_pays_J109 hnx34 hF
  · have hF := (if_neg c19).symm.trans hF
    exact fr_X12_pays_J109 hnx34 hF
theorem fr_X12_pays_B34 {N : Nat}  {nx34 : (Int × Int) → Option (Int × Sto)} {v1 : Int} {v2 : Int} {v3 : Int} {v4 : Int} {σ : Sto} {res : Int × Sto} (hnx34 : ∀ q, nx34 q = some res → Fr (Wr_X12_pays) σ res.2) (hF : F_X12_pays_B34 N nx34 v1 v2 v3 v4 σ = some res) : Fr (Wr_X12_pays) σ res.2 := by
  unfold F_X12_pays_B34 at hF
  obtain ⟨q15, eq15, hF⟩ := bind_some' hF
  by_cases c16 : q15 ≤ v4
  · have hF := (if_pos c16).symm.trans hF
    obtain rfl := Option.some.inj hF
    exact Fr.rf
  · have hF := (if_neg c16).symm.trans hF
    by_cases c24 : v2 = 2
    · have hF := (if_pos c24).symm.trans hF
      exact fr_X12_pays_J69 hnx34 hF
    · have hF := (if_neg c24).symm.trans hF
      exact fr_X12_pays_J69 hnx34 hF
theorem fr_X12_pays {N : Nat} {v1 : Int} {v2 : Int} {σ : Sto} {res : Int × Sto} (hF : F_X12_pays N v1 v2 σ = some res) : Fr (Wr_X12_pays) σ res.2 := by
  unfold F_X12_pays at hF
  obtain ⟨q1, eq1, hF⟩ := bind_some' hF
  by_cases c2 : q1 = 0
  · have hF := (if_pos c2).symm.trans hF
    obtain rfl := Option.some.inj hF
    exact (Fr_up Fr.rf (show Wr_X12_pays _ _ from (Or.inl (by omega))))
  · have hF := (if_neg c2).symm.trans hF
    obtain ⟨q3, eq3, hF⟩ := bind_some' hF
    by_cases c4 : q3 = 0
    · have hF := (if_pos c4).symm.trans hF
      obtain rfl := Option.some.inj hF
      exact (Fr_up Fr.rf (show Wr_X12_pays _ _ from (Or.inl (by omega))))
    · have hF := (if_neg c4).symm.trans hF
      by_cases c5 : v2 ≤ 1
      · have hF := (if_pos c5).symm.trans hF
        obtain ⟨q6, eq6, hF⟩ := bind_some' hF
        exact Fr_tr (Fr_tr (Fr_up Fr.rf (show Wr_X12_pays _ _ from (Or.inl (by omega)))) (Fr_mono (fr_X12_solves (res := q6) eq6) (fun a j h => by
      unfold Wr_X12_solves at h
      unfold Wr_X12_pays
      rcases h with h | h | h
      · exact (Or.inr (Or.inl (by omega)))
      · exact (Or.inr (Or.inr (Or.inl (by omega))))
      · exact (Or.inr (Or.inr (Or.inr (by omega))))))) (loopK_ind (res := res) (P := fun (q : Int × Int) => Fr (Wr_X12_pays) q6.2 res.2) (fun nx q hn hF => fr_X12_pays_B127 hn hF) N (0, 0) hF)
      · have hF := (if_neg c5).symm.trans hF
        exact Fr_tr (Fr_up Fr.rf (show Wr_X12_pays _ _ from (Or.inl (by omega)))) (loopK_ind (res := res) (P := fun (q : Int × Int) => Fr (Wr_X12_pays) (upI σ 94 2 0) res.2) (fun nx q hn hF => fr_X12_pays_B34 hn hF) N (0, 0) hF)
def Wr_X12_laysBalances (a : Nat) (j : Int) : Prop := (a = 94 ∧ j = 30) ∨ (a = 94 ∧ j = 37) ∨ ((102 ≤ a ∧ a ≤ 112))
theorem fr_X12_laysBalances_J235 {N : Nat}  {nx176 : (Int × Sto) → Option (Sto)} {v1 : Int} {σ : Sto} {res : Sto} (hnx176 : ∀ q, nx176 q = some res → Fr (Wr_X12_laysBalances) q.2 res) (hF : F_X12_laysBalances_J235 N nx176 v1 σ = some res) : Fr (Wr_X12_laysBalances) σ res := by
  unfold F_X12_laysBalances_J235 at hF
  exact Fr_tr Fr.rf (hnx176 ((ja v1 1), σ) hF)
theorem fr_X12_laysBalances_B191 {N : Nat}  {nx176 : (Int × Sto) → Option (Sto)} {nx191 : (Int × Sto) → Option (Sto)} {v1 : Int} {v2 : Int} {σ : Sto} {res : Sto} (hnx176 : ∀ q, nx176 q = some res → Fr (Wr_X12_laysBalances) q.2 res) (hnx191 : ∀ q, nx191 q = some res → Fr (Wr_X12_laysBalances) q.2 res) (hF : F_X12_laysBalances_B191 N nx176 nx191 v1 v2 σ = some res) : Fr (Wr_X12_laysBalances) σ res := by
  unfold F_X12_laysBalances_B191 at hF
  by_cases c4 : 8 ≤ v2
  · have hF := (if_pos c4).symm.trans hF
    exact fr_X12_laysBalances_J235 hnx176 hF
  · have hF := (if_neg c4).symm.trans hF
    obtain ⟨b5, hF⟩ := inb_some hF
    obtain ⟨b6, hF⟩ := inb_some hF
    obtain ⟨b7, hF⟩ := inb_some hF
    exact Fr_tr (Fr_up Fr.rf (show Wr_X12_laysBalances _ _ from (Or.inr (Or.inr (by omega))))) (hnx191 ((ja v2 1), (upI σ 112 v1 (ja (σ.1 112 v1) (js (σ.1 111 (ja (jm 8 v2) v1)) (σ.1 111 (ja (jm 8 v1) v2)))))) hF)
theorem fr_X12_laysBalances_B176 {N : Nat}  {nx176 : (Int × Sto) → Option (Sto)} {v1 : Int} {σ : Sto} {res : Sto} (hnx176 : ∀ q, nx176 q = some res → Fr (Wr_X12_laysBalances) q.2 res) (hF : F_X12_laysBalances_B176 N nx176 v1 σ = some res) : Fr (Wr_X12_laysBalances) σ res := by
  unfold F_X12_laysBalances_B176 at hF
  by_cases c2 : 8 ≤ v1
  · have hF := (if_pos c2).symm.trans hF
    obtain rfl := Option.some.inj hF
    exact Fr.rf
  · have hF := (if_neg c2).symm.trans hF
    obtain ⟨b3, hF⟩ := inb_some hF
    exact Fr_tr (Fr_up Fr.rf (show Wr_X12_laysBalances _ _ from (Or.inr (Or.inr (by omega))))) (loopK_ind (res := res) (P := fun (q : Int × Sto) => Fr (Wr_X12_laysBalances) q.2 res) (fun nx q hn hF => fr_X12_laysBalances_B191 hnx176 hn hF) N (0, (upI σ 112 v1 0)) hF)
theorem fr_X12_laysBalances_J174 {N : Nat}    {σ : Sto} {res : Sto} (hF : F_X12_laysBalances_J174 N   σ = some res) : Fr (Wr_X12_laysBalances) σ res := by
  unfold F_X12_laysBalances_J174 at hF
  exact (loopK_ind (res := res) (P := fun (q : Int × Sto) => Fr (Wr_X12_laysBalances) q.2 res) (fun nx q hn hF => fr_X12_laysBalances_B176 hn hF) N (0, σ) hF)
theorem fr_X12_laysBalances_B98 {N : Nat}  {nx98 : (Int × Sto) → Option (Sto)} {v1 : Int} {σ : Sto} {res : Sto} (hnx98 : ∀ q, nx98 q = some res → Fr (Wr_X12_laysBalances) q.2 res) (hF : F_X12_laysBalances_B98 N nx98 v1 σ = some res) : Fr (Wr_X12_laysBalances) σ res := by
  unfold F_X12_laysBalances_B98 at hF
  obtain ⟨q8, eq8, hF⟩ := bind_some' hF
  by_cases c9 : q8 ≤ v1
  · have hF := (if_pos c9).symm.trans hF
    exact fr_X12_laysBalances_J174  hF
  · have hF := (if_neg c9).symm.trans hF
    obtain ⟨q10, eq10, hF⟩ := bind_some' hF
    obtain ⟨q11, eq11, hF⟩ := bind_some' hF
    obtain ⟨q12, eq12, hF⟩ := bind_some' hF
    obtain ⟨q13, eq13, hF⟩ := bind_some' hF
    obtain ⟨b14, hF⟩ := inb_some hF
    obtain ⟨q15, eq15, hF⟩ := bind_some' hF
    obtain ⟨q16, eq16, hF⟩ := bind_some' hF
    obtain ⟨q17, eq17, hF⟩ := bind_some' hF
    obtain ⟨q18, eq18, hF⟩ := bind_some' hF
    exact Fr_tr (Fr_up Fr.rf (show Wr_X12_laysBalances _ _ from (Or.inr (Or.inr (by omega))))) (hnx98 ((ja v1 1), (upI σ 111 (ja (jm 8 q11) q13) (ja (σ.1 111 (ja (jm 8 q11) q13)) q18))) hF)
theorem fr_X12_laysBalances_J96 {N : Nat}    {σ : Sto} {res : Sto} (hF : F_X12_laysBalances_J96 N   σ = some res) : Fr (Wr_X12_laysBalances) σ res := by
  unfold F_X12_laysBalances_J96 at hF
  exact (loopK_ind (res := res) (P := fun (q : Int × Sto) => Fr (Wr_X12_laysBalances) q.2 res) (fun nx q hn hF => fr_X12_laysBalances_B98 hn hF) N (0, σ) hF)
theorem fr_X12_laysBalances_J90 {N : Nat}  {nx28 : (Int × Sto) → Option (Sto)} {v1 : Int} {σ : Sto} {res : Sto} (hnx28 : ∀ q, nx28 q = some res → Fr (Wr_X12_laysBalances) q.2 res) (hF : F_X12_laysBalances_J90 N nx28 v1 σ = some res) : Fr (Wr_X12_laysBalances) σ res := by
  unfold F_X12_laysBalances_J90 at hF
  exact Fr_tr Fr.rf (hnx28 ((ja v1 1), σ) hF)
theorem fr_X12_laysBalances_B28 {N : Nat}  {nx28 : (Int × Sto) → Option (Sto)} {v1 : Int} {σ : Sto} {res : Sto} (hnx28 : ∀ q, nx28 q = some res → Fr (Wr_X12_laysBalances) q.2 res) (hF : F_X12_laysBalances_B28 N nx28 v1 σ = some res) : Fr (Wr_X12_laysBalances) σ res := by
  unfold F_X12_laysBalances_B28 at hF
  by_cases c19 : 144 ≤ v1
  · have hF := (if_pos c19).symm.trans hF
    exact fr_X12_laysBalances_J96  hF
  · have hF := (if_neg c19).symm.trans hF
    obtain ⟨b20, hF⟩ := inb_some hF
    by_cases c21 : (σ.1 107 v1) ≤ 0
    · have hF := (if_pos c21).symm.trans hF
      exact fr_X12_laysBalances_J90 hnx28 hF
    · have hF := (if_neg c21).symm.trans hF
      obtain ⟨q22, eq22, hF⟩ := bind_some' hF
      obtain ⟨q23, eq23, hF⟩ := bind_some' hF
      obtain ⟨b24, hF⟩ := inb_some hF
      obtain ⟨q25, eq25, hF⟩ := bind_some' hF
      exact Fr_tr (Fr_up Fr.rf (show Wr_X12_laysBalances _ _ from (Or.inr (Or.inr (by omega))))) (fr_X12_laysBalances_J90 hnx28 hF)
theorem fr_X12_laysBalances_J26 {N : Nat}    {σ : Sto} {res : Sto} (hF : F_X12_laysBalances_J26 N   σ = some res) : Fr (Wr_X12_laysBalances) σ res := by
  unfold F_X12_laysBalances_J26 at hF
  exact (loopK_ind (res := res) (P := fun (q : Int × Sto) => Fr (Wr_X12_laysBalances) q.2 res) (fun nx q hn hF => fr_X12_laysBalances_B28 hn hF) N (0, σ) hF)
theorem fr_X12_laysBalances_B7 {N : Nat}  {nx7 : (Int × Sto) → Option (Sto)} {v1 : Int} {σ : Sto} {res : Sto} (hnx7 : ∀ q, nx7 q = some res → Fr (Wr_X12_laysBalances) q.2 res) (hF : F_X12_laysBalances_B7 N nx7 v1 σ = some res) : Fr (Wr_X12_laysBalances) σ res := by
  unfold F_X12_laysBalances_B7 at hF
  by_cases c26 : 64 ≤ v1
  · have hF := (if_pos c26).symm.trans hF
    exact fr_X12_laysBalances_J26  hF
  · have hF := (if_neg c26).symm.trans hF
    obtain ⟨b27, hF⟩ := inb_some hF
    exact Fr_tr (Fr_up Fr.rf (show Wr_X12_laysBalances _ _ from (Or.inr (Or.inr (by omega))))) (hnx7 ((ja v1 1), (upI σ 111 v1 0)) hF)
theorem fr_X12_laysBalances {N : Nat}  {σ : Sto} {res : Sto} (hF : F_X12_laysBalances N  σ = some res) : Fr (Wr_X12_laysBalances) σ res := by
  unfold F_X12_laysBalances at hF
  obtain ⟨q1, eq1, hF⟩ := bind_some' hF
  exact Fr_tr (Fr_tr Fr.rf (Fr_mono (fr_X12_solves (res := q1) eq1) (fun a j h => by
      unfold Wr_X12_solves at h
      unfold Wr_X12_laysBalances
      rcases h with h | h | h
      · exact (Or.inl (by omega))
      · exact (Or.inr (Or.inl (by omega)))
      · exact (Or.inr (Or.inr (by omega)))))) (loopK_ind (res := res) (P := fun (q : Int × Sto) => Fr (Wr_X12_laysBalances) q.2 res) (fun nx q hn hF => fr_X12_laysBalances_B7 hn hF) N (0, q1.2) hF)
def Wr_X12_balance (a : Nat) (j : Int) : Prop := (a = 94 ∧ j = 2) ∨ (a = 94 ∧ j = 30) ∨ (a = 94 ∧ j = 37) ∨ ((102 ≤ a ∧ a ≤ 112))
theorem fr_X12_balance {N : Nat} {v1 : Int} {σ : Sto} {res : Int × Sto} (hF : F_X12_balance N v1 σ = some res) : Fr (Wr_X12_balance) σ res.2 := by
  unfold F_X12_balance at hF
  obtain ⟨q1, eq1, hF⟩ := bind_some' hF
  by_cases c2 : q1 = 0
  · have hF := (if_pos c2).symm.trans hF
    obtain rfl := Option.some.inj hF
    exact (Fr_up Fr.rf (show Wr_X12_balance _ _ from (Or.inl (by omega))))
  · have hF := (if_neg c2).symm.trans hF
    obtain ⟨q3, eq3, hF⟩ := bind_some' hF
    obtain ⟨b4, hF⟩ := inb_some hF
    obtain rfl := Option.some.inj hF
    exact (Fr_tr (Fr_up Fr.rf (show Wr_X12_balance _ _ from (Or.inl (by omega)))) (Fr_mono (fr_X12_laysBalances (res := q3) eq3) (fun a j h => by
      unfold Wr_X12_laysBalances at h
      unfold Wr_X12_balance
      rcases h with h | h | h
      · exact (Or.inr (Or.inl (by omega)))
      · exact (Or.inr (Or.inr (Or.inl (by omega))))
      · exact (Or.inr (Or.inr (Or.inr (by omega)))))))
def Wr_X12_owes (a : Nat) (j : Int) : Prop := (a = 94 ∧ j = 2) ∨ (a = 94 ∧ j = 30) ∨ (a = 94 ∧ j = 37) ∨ ((102 ≤ a ∧ a ≤ 112))
theorem fr_X12_owes {N : Nat} {v1 : Int} {v2 : Int} {σ : Sto} {res : Int × Sto} (hF : F_X12_owes N v1 v2 σ = some res) : Fr (Wr_X12_owes) σ res.2 := by
  unfold F_X12_owes at hF
  obtain ⟨q1, eq1, hF⟩ := bind_some' hF
  by_cases c2 : q1 = 0
  · have hF := (if_pos c2).symm.trans hF
    obtain rfl := Option.some.inj hF
    exact (Fr_up Fr.rf (show Wr_X12_owes _ _ from (Or.inl (by omega))))
  · have hF := (if_neg c2).symm.trans hF
    by_cases c3 : v1 = v2
    · have hF := (if_pos c3).symm.trans hF
      obtain rfl := Option.some.inj hF
      exact (Fr_up Fr.rf (show Wr_X12_owes _ _ from (Or.inl (by omega))))
    · have hF := (if_neg c3).symm.trans hF
      obtain ⟨q4, eq4, hF⟩ := bind_some' hF
      obtain ⟨b5, hF⟩ := inb_some hF
      obtain ⟨b6, hF⟩ := inb_some hF
      obtain rfl := Option.some.inj hF
      exact (Fr_tr (Fr_up Fr.rf (show Wr_X12_owes _ _ from (Or.inl (by omega)))) (Fr_mono (fr_X12_laysBalances (res := q4) eq4) (fun a j h => by
      unfold Wr_X12_laysBalances at h
      unfold Wr_X12_owes
      rcases h with h | h | h
      · exact (Or.inr (Or.inl (by omega)))
      · exact (Or.inr (Or.inr (Or.inl (by omega))))
      · exact (Or.inr (Or.inr (Or.inr (by omega)))))))
def Wr_X12_settlesOne (a : Nat) (j : Int) : Prop := (a = 94 ∧ j = 44) ∨ (a = 94 ∧ j = 45) ∨ (a = 94 ∧ j = 46) ∨ (a = 112)
theorem fr_X12_settlesOne_J138 {N : Nat}   {t1 : Int} {σ : Sto} {res : Int × Sto} (hF : F_X12_settlesOne_J138 N  t1 σ = some res) : Fr (Wr_X12_settlesOne) σ res.2 := by
  unfold F_X12_settlesOne_J138 at hF
  obtain ⟨b4, hF⟩ := inb_some hF
  obtain ⟨b5, hF⟩ := inb_some hF
  obtain rfl := Option.some.inj hF
  exact (Fr_up (Fr_up (Fr_up Fr.rf (show Wr_X12_settlesOne _ _ from (Or.inr (Or.inr (Or.inl (by omega)))))) (show Wr_X12_settlesOne _ _ from (Or.inr (Or.inr (Or.inr (by omega)))))) (show Wr_X12_settlesOne _ _ from (Or.inr (Or.inr (Or.inr (by omega))))))
theorem fr_X12_settlesOne_J72 {N : Nat}    {σ : Sto} {res : Int × Sto} (hF : F_X12_settlesOne_J72 N   σ = some res) : Fr (Wr_X12_settlesOne) σ res.2 := by
  unfold F_X12_settlesOne_J72 at hF
  by_cases c1 : (σ.1 94 11) = 0
  · have hF := (if_pos c1).symm.trans hF
    obtain rfl := Option.some.inj hF
    exact Fr.rf
  · have hF := (if_neg c1).symm.trans hF
    obtain ⟨b2, hF⟩ := inb_some hF
    by_cases c3 : (σ.1 112 (σ.1 94 44)) < 0
    · have hF := (if_pos c3).symm.trans hF
      obtain ⟨b6, hF⟩ := inb_some hF
      by_cases c7 : (σ.1 112 (σ.1 94 45)) ≤ (jneg (σ.1 112 (σ.1 94 44)))
      · have hF := (if_pos c7).symm.trans hF
        exact fr_X12_settlesOne_J138  hF
      · have hF := (if_neg c7).symm.trans hF
        exact fr_X12_settlesOne_J138  hF
    · have hF := (if_neg c3).symm.trans hF
      obtain rfl := Option.some.inj hF
      exact Fr.rf
theorem fr_X12_settlesOne_J66 {N : Nat}  {nx12 : (Int × Sto) → Option (Int × Sto)} {v1 : Int} {σ : Sto} {res : Int × Sto} (hnx12 : ∀ q, nx12 q = some res → Fr (Wr_X12_settlesOne) q.2 res.2) (hF : F_X12_settlesOne_J66 N nx12 v1 σ = some res) : Fr (Wr_X12_settlesOne) σ res.2 := by
  unfold F_X12_settlesOne_J66 at hF
  exact Fr_tr Fr.rf (hnx12 ((ja v1 1), σ) hF)
theorem fr_X12_settlesOne_J43 {N : Nat}  {nx12 : (Int × Sto) → Option (Int × Sto)} {v1 : Int} {σ : Sto} {res : Int × Sto} (hnx12 : ∀ q, nx12 q = some res → Fr (Wr_X12_settlesOne) q.2 res.2) (hF : F_X12_settlesOne_J43 N nx12 v1 σ = some res) : Fr (Wr_X12_settlesOne) σ res.2 := by
  unfold F_X12_settlesOne_J43 at hF
  obtain ⟨b9, hF⟩ := inb_some hF
  obtain ⟨b10, hF⟩ := inb_some hF
  by_cases c11 : (σ.1 112 v1) ≤ (σ.1 112 (σ.1 94 45))
  · have hF := (if_pos c11).symm.trans hF
    exact fr_X12_settlesOne_J66 hnx12 hF
  · have hF := (if_neg c11).symm.trans hF
    exact Fr_tr (Fr_up Fr.rf (show Wr_X12_settlesOne _ _ from (Or.inr (Or.inl (by omega))))) (fr_X12_settlesOne_J66 hnx12 hF)
theorem fr_X12_settlesOne_B12 {N : Nat}  {nx12 : (Int × Sto) → Option (Int × Sto)} {v1 : Int} {σ : Sto} {res : Int × Sto} (hnx12 : ∀ q, nx12 q = some res → Fr (Wr_X12_settlesOne) q.2 res.2) (hF : F_X12_settlesOne_B12 N nx12 v1 σ = some res) : Fr (Wr_X12_settlesOne) σ res.2 := by
  unfold F_X12_settlesOne_B12 at hF
  by_cases c8 : (σ.1 94 11) ≤ v1
  · have hF := (if_pos c8).symm.trans hF
    exact fr_X12_settlesOne_J72  hF
  · have hF := (if_neg c8).symm.trans hF
    obtain ⟨b12, hF⟩ := inb_some hF
    obtain ⟨b13, hF⟩ := inb_some hF
    by_cases c14 : (σ.1 112 (σ.1 94 44)) ≤ (σ.1 112 v1)
    · have hF := (if_pos c14).symm.trans hF
      exact fr_X12_settlesOne_J43 hnx12 hF
    · have hF := (if_neg c14).symm.trans hF
      exact Fr_tr (Fr_up Fr.rf (show Wr_X12_settlesOne _ _ from (Or.inl (by omega)))) (fr_X12_settlesOne_J43 hnx12 hF)
theorem fr_X12_settlesOne {N : Nat}  {σ : Sto} {res : Int × Sto} (hF : F_X12_settlesOne N  σ = some res) : Fr (Wr_X12_settlesOne) σ res.2 := by
  unfold F_X12_settlesOne at hF
  exact Fr_tr (Fr_up (Fr_up Fr.rf (show Wr_X12_settlesOne _ _ from (Or.inl (by omega)))) (show Wr_X12_settlesOne _ _ from (Or.inr (Or.inl (by omega))))) (loopK_ind (res := res) (P := fun (q : Int × Sto) => Fr (Wr_X12_settlesOne) q.2 res.2) (fun nx q hn hF => fr_X12_settlesOne_B12 hn hF) N (1, (upI (upI σ 94 44 0) 94 45 0)) hF)
def Wr_X12_settles (a : Nat) (j : Int) : Prop := (a = 94 ∧ j = 2) ∨ (a = 94 ∧ j = 30) ∨ (a = 94 ∧ j = 37) ∨ (a = 94 ∧ j = 44) ∨ (a = 94 ∧ j = 45) ∨ (a = 94 ∧ j = 46) ∨ ((102 ≤ a ∧ a ≤ 112))
theorem fr_X12_settles_B11 {N : Nat}  {nx11 : (Int × Sto) → Option (Int × Sto)} {v1 : Int} {σ : Sto} {res : Int × Sto} (hnx11 : ∀ q, nx11 q = some res → Fr (Wr_X12_settles) q.2 res.2) (hF : F_X12_settles_B11 N nx11 v1 σ = some res) : Fr (Wr_X12_settles) σ res.2 := by
  unfold F_X12_settles_B11 at hF
  obtain ⟨q2, eq2, hF⟩ := bind_some' hF
  by_cases c3 : q2.1 = 0
  · have hF := (if_pos c3).symm.trans hF
    obtain rfl := Option.some.inj hF
    exact (Fr_tr Fr.rf (Fr_mono (fr_X12_settlesOne (res := q2) eq2) (fun a j h => by
      unfold Wr_X12_settlesOne at h
      unfold Wr_X12_settles
      rcases h with h | h | h | h
      · exact (Or.inr (Or.inr (Or.inr (Or.inl (by omega)))))
      · exact (Or.inr (Or.inr (Or.inr (Or.inr (Or.inl (by omega))))))
      · exact (Or.inr (Or.inr (Or.inr (Or.inr (Or.inr (Or.inl (by omega)))))))
      · exact (Or.inr (Or.inr (Or.inr (Or.inr (Or.inr (Or.inr (by omega))))))))))
  · have hF := (if_neg c3).symm.trans hF
    exact Fr_tr (Fr_tr Fr.rf (Fr_mono (fr_X12_settlesOne (res := q2) eq2) (fun a j h => by
      unfold Wr_X12_settlesOne at h
      unfold Wr_X12_settles
      rcases h with h | h | h | h
      · exact (Or.inr (Or.inr (Or.inr (Or.inl (by omega)))))
      · exact (Or.inr (Or.inr (Or.inr (Or.inr (Or.inl (by omega))))))
      · exact (Or.inr (Or.inr (Or.inr (Or.inr (Or.inr (Or.inl (by omega)))))))
      · exact (Or.inr (Or.inr (Or.inr (Or.inr (Or.inr (Or.inr (by omega)))))))))) (hnx11 ((ja v1 1), q2.2) hF)
theorem fr_X12_settles {N : Nat}  {σ : Sto} {res : Int × Sto} (hF : F_X12_settles N  σ = some res) : Fr (Wr_X12_settles) σ res.2 := by
  unfold F_X12_settles at hF
  obtain ⟨q1, eq1, hF⟩ := bind_some' hF
  exact Fr_tr (Fr_tr (Fr_up Fr.rf (show Wr_X12_settles _ _ from (Or.inl (by omega)))) (Fr_mono (fr_X12_laysBalances (res := q1) eq1) (fun a j h => by
      unfold Wr_X12_laysBalances at h
      unfold Wr_X12_settles
      rcases h with h | h | h
      · exact (Or.inr (Or.inl (by omega)))
      · exact (Or.inr (Or.inr (Or.inl (by omega))))
      · exact (Or.inr (Or.inr (Or.inr (Or.inr (Or.inr (Or.inr (by omega)))))))))) (loopK_ind (res := res) (P := fun (q : Int × Sto) => Fr (Wr_X12_settles) q.2 res.2) (fun nx q hn hF => fr_X12_settles_B11 hn hF) N (0, q1) hF)
def Wr_X12_settling (a : Nat) (j : Int) : Prop := (a = 94 ∧ j = 2) ∨ (a = 94 ∧ j = 30) ∨ (a = 94 ∧ j = 37) ∨ (a = 94 ∧ j = 44) ∨ (a = 94 ∧ j = 45) ∨ (a = 94 ∧ j = 46) ∨ ((102 ≤ a ∧ a ≤ 112))
theorem fr_X12_settling_J47 {N : Nat}   {v2 : Int} {σ : Sto} {res : Int × Sto} (hF : F_X12_settling_J47 N  v2 σ = some res) : Fr (Wr_X12_settling) σ res.2 := by
  unfold F_X12_settling_J47 at hF
  by_cases c5 : v2 = 0
  · have hF := (if_pos c5).symm.trans hF
    obtain rfl := Option.some.inj hF
    exact Fr.rf
  · have hF := (if_neg c5).symm.trans hF
    by_cases c6 : v2 = 1
    · have hF := (if_pos c6).symm.trans hF
      obtain rfl := Option.some.inj hF
      exact Fr.rf
    · have hF := (if_neg c6).symm.trans hF
      obtain rfl := Option.some.inj hF
      exact Fr.rf
theorem fr_X12_settling_B26 {N : Nat}  {nx26 : (Int × Sto) → Option (Int × Sto)} {v1 : Int} {v2 : Int} {v3 : Int} {σ : Sto} {res : Int × Sto} (hnx26 : ∀ q, nx26 q = some res → Fr (Wr_X12_settling) q.2 res.2) (hF : F_X12_settling_B26 N nx26 v1 v2 v3 σ = some res) : Fr (Wr_X12_settling) σ res.2 := by
  unfold F_X12_settling_B26 at hF
  by_cases c7 : v1 < v3
  · have hF := (if_pos c7).symm.trans hF
    exact fr_X12_settling_J47  hF
  · have hF := (if_neg c7).symm.trans hF
    obtain ⟨q8, eq8, hF⟩ := bind_some' hF
    by_cases c9 : q8.1 = 0
    · have hF := (if_pos c9).symm.trans hF
      obtain rfl := Option.some.inj hF
      exact (Fr_tr Fr.rf (Fr_mono (fr_X12_settlesOne (res := q8) eq8) (fun a j h => by
      unfold Wr_X12_settlesOne at h
      unfold Wr_X12_settling
      rcases h with h | h | h | h
      · exact (Or.inr (Or.inr (Or.inr (Or.inl (by omega)))))
      · exact (Or.inr (Or.inr (Or.inr (Or.inr (Or.inl (by omega))))))
      · exact (Or.inr (Or.inr (Or.inr (Or.inr (Or.inr (Or.inl (by omega)))))))
      · exact (Or.inr (Or.inr (Or.inr (Or.inr (Or.inr (Or.inr (by omega))))))))))
    · have hF := (if_neg c9).symm.trans hF
      exact Fr_tr (Fr_tr Fr.rf (Fr_mono (fr_X12_settlesOne (res := q8) eq8) (fun a j h => by
      unfold Wr_X12_settlesOne at h
      unfold Wr_X12_settling
      rcases h with h | h | h | h
      · exact (Or.inr (Or.inr (Or.inr (Or.inl (by omega)))))
      · exact (Or.inr (Or.inr (Or.inr (Or.inr (Or.inl (by omega))))))
      · exact (Or.inr (Or.inr (Or.inr (Or.inr (Or.inr (Or.inl (by omega)))))))
      · exact (Or.inr (Or.inr (Or.inr (Or.inr (Or.inr (Or.inr (by omega)))))))))) (hnx26 ((ja v3 1), q8.2) hF)
theorem fr_X12_settling {N : Nat} {v1 : Int} {v2 : Int} {σ : Sto} {res : Int × Sto} (hF : F_X12_settling N v1 v2 σ = some res) : Fr (Wr_X12_settling) σ res.2 := by
  unfold F_X12_settling at hF
  by_cases c1 : v1 < 0
  · have hF := (if_pos c1).symm.trans hF
    obtain rfl := Option.some.inj hF
    exact (Fr_up Fr.rf (show Wr_X12_settling _ _ from (Or.inl (by omega))))
  · have hF := (if_neg c1).symm.trans hF
    obtain ⟨q2, eq2, hF⟩ := bind_some' hF
    by_cases c3 : q2 = 0
    · have hF := (if_pos c3).symm.trans hF
      obtain rfl := Option.some.inj hF
      exact (Fr_up Fr.rf (show Wr_X12_settling _ _ from (Or.inl (by omega))))
    · have hF := (if_neg c3).symm.trans hF
      obtain ⟨q4, eq4, hF⟩ := bind_some' hF
      exact Fr_tr (Fr_tr (Fr_up Fr.rf (show Wr_X12_settling _ _ from (Or.inl (by omega)))) (Fr_mono (fr_X12_laysBalances (res := q4) eq4) (fun a j h => by
      unfold Wr_X12_laysBalances at h
      unfold Wr_X12_settling
      rcases h with h | h | h
      · exact (Or.inr (Or.inl (by omega)))
      · exact (Or.inr (Or.inr (Or.inl (by omega))))
      · exact (Or.inr (Or.inr (Or.inr (Or.inr (Or.inr (Or.inr (by omega)))))))))) (loopK_ind (res := res) (P := fun (q : Int × Sto) => Fr (Wr_X12_settling) q.2 res.2) (fun nx q hn hF => fr_X12_settling_B26 hn hF) N (0, q4) hF)
def Wr_X12_tax (a : Nat) (j : Int) : Prop := (a = 94 ∧ j = 2) ∨ (a = 94 ∧ j = 30) ∨ (a = 94 ∧ j = 37) ∨ ((102 ≤ a ∧ a ≤ 110))
theorem fr_X12_tax_J76 {N : Nat}  {nx24 : (Int × Int) → Option (Int × Sto)} {v1 : Int} {v2 : Int} {v3 : Int} {σ : Sto} {res : Int × Sto} (hnx24 : ∀ q, nx24 q = some res → Fr (Wr_X12_tax) σ res.2) (hF : F_X12_tax_J76 N nx24 v1 v2 v3 σ = some res) : Fr (Wr_X12_tax) σ res.2 := by
  unfold F_X12_tax_J76 at hF
  exact hnx24 _ hF
theorem fr_X12_tax_B24 {N : Nat}  {nx24 : (Int × Int) → Option (Int × Sto)} {v1 : Int} {v2 : Int} {v3 : Int} {σ : Sto} {res : Int × Sto} (hnx24 : ∀ q, nx24 q = some res → Fr (Wr_X12_tax) σ res.2) (hF : F_X12_tax_B24 N nx24 v1 v2 v3 σ = some res) : Fr (Wr_X12_tax) σ res.2 := by
  unfold F_X12_tax_B24 at hF
  by_cases c4 : (σ.1 94 14) ≤ v3
  · have hF := (if_pos c4).symm.trans hF
    obtain rfl := Option.some.inj hF
    exact Fr.rf
  · have hF := (if_neg c4).symm.trans hF
    obtain ⟨q5, eq5, hF⟩ := bind_some' hF
    by_cases c6 : q5 = v1
    · have hF := (if_pos c6).symm.trans hF
      obtain ⟨q7, eq7, hF⟩ := bind_some' hF
      by_cases c8 : q7 ≤ 0
      · have hF := (if_pos c8).symm.trans hF
        exact fr_X12_tax_J76 hnx24 hF
      · have hF := (if_neg c8).symm.trans hF
        obtain ⟨b9, hF⟩ := inb_some hF
        obtain ⟨b10, hF⟩ := inb_some hF
        exact fr_X12_tax_J76 hnx24 hF
    · have hF := (if_neg c6).symm.trans hF
      exact fr_X12_tax_J76 hnx24 hF
theorem fr_X12_tax {N : Nat} {v1 : Int} {σ : Sto} {res : Int × Sto} (hF : F_X12_tax N v1 σ = some res) : Fr (Wr_X12_tax) σ res.2 := by
  unfold F_X12_tax at hF
  obtain ⟨q1, eq1, hF⟩ := bind_some' hF
  by_cases c2 : q1 = 0
  · have hF := (if_pos c2).symm.trans hF
    obtain rfl := Option.some.inj hF
    exact (Fr_up Fr.rf (show Wr_X12_tax _ _ from (Or.inl (by omega))))
  · have hF := (if_neg c2).symm.trans hF
    obtain ⟨q3, eq3, hF⟩ := bind_some' hF
    exact Fr_tr (Fr_tr (Fr_up Fr.rf (show Wr_X12_tax _ _ from (Or.inl (by omega)))) (Fr_mono (fr_X12_solves (res := q3) eq3) (fun a j h => by
      unfold Wr_X12_solves at h
      unfold Wr_X12_tax
      rcases h with h | h | h
      · exact (Or.inr (Or.inl (by omega)))
      · exact (Or.inr (Or.inr (Or.inl (by omega))))
      · exact (Or.inr (Or.inr (Or.inr (by omega))))))) (loopK_ind (res := res) (P := fun (q : Int × Int) => Fr (Wr_X12_tax) q3.2 res.2) (fun nx q hn hF => fr_X12_tax_B24 hn hF) N (0, 0) hF)
def Wr_X12_without (a : Nat) (j : Int) : Prop := (a = 94 ∧ j = 2) ∨ (a = 94 ∧ j = 24) ∨ (a = 94 ∧ j = 30) ∨ (a = 94 ∧ j = 37) ∨ (a = 94 ∧ j = 38) ∨ ((101 ≤ a ∧ a ≤ 110))
theorem fr_X12_without_J128 {N : Nat}   {v1 : Int} {v2 : Int} {σ : Sto} {res : Int × Sto} (hF : F_X12_without_J128 N  v1 v2 σ = some res) : Fr (Wr_X12_without) σ res.2 := by
  unfold F_X12_without_J128 at hF
  obtain ⟨q4, eq4, hF⟩ := bind_some' hF
  obtain ⟨q5, eq5, hF⟩ := bind_some' hF
  obtain rfl := Option.some.inj hF
  exact (Fr_up (Fr_up (Fr_tr (Fr_up (Fr_tr Fr.rf (Fr_mono (fr_X12_lay (res := q4) eq4) (fun a j h => by have h : Wr_X12_lay a j := h; unfold Wr_X12_lay at h; unfold Wr_X12_without; (exact (Or.inr (Or.inr (Or.inr (Or.inr (Or.inr (by omega)))))))))) (show Wr_X12_without _ _ from (Or.inr (Or.inr (Or.inr (Or.inr (Or.inl (by omega)))))))) (Fr_mono (fr_X12_solves (res := q5) eq5) (fun a j h => by
      unfold Wr_X12_solves at h
      unfold Wr_X12_without
      rcases h with h | h | h
      · exact (Or.inr (Or.inr (Or.inl (by omega))))
      · exact (Or.inr (Or.inr (Or.inr (Or.inl (by omega)))))
      · exact (Or.inr (Or.inr (Or.inr (Or.inr (Or.inr (by omega))))))))) (show Wr_X12_without _ _ from (Or.inr (Or.inr (Or.inr (Or.inr (Or.inl (by omega)))))))) (show Wr_X12_without _ _ from (Or.inr (Or.inl (by omega)))))
theorem fr_X12_without_J122 {N : Nat}  {nx30 : (Int × Int × Sto) → Option (Int × Sto)} {v1 : Int} {v2 : Int} {v3 : Int} {σ : Sto} {res : Int × Sto} (hnx30 : ∀ q, nx30 q = some res → Fr (Wr_X12_without) q.2.2 res.2) (hF : F_X12_without_J122 N nx30 v1 v2 v3 σ = some res) : Fr (Wr_X12_without) σ res.2 := by
  unfold F_X12_without_J122 at hF
  exact Fr_tr Fr.rf (hnx30 (v2, (ja v3 1), σ) hF)
theorem fr_X12_without_J119 {N : Nat}  {nx30 : (Int × Int × Sto) → Option (Int × Sto)} {v1 : Int} {v2 : Int} {v3 : Int} {σ : Sto} {res : Int × Sto} (hnx30 : ∀ q, nx30 q = some res → Fr (Wr_X12_without) q.2.2 res.2) (hF : F_X12_without_J119 N nx30 v1 v2 v3 σ = some res) : Fr (Wr_X12_without) σ res.2 := by
  unfold F_X12_without_J119 at hF
  exact fr_X12_without_J122 hnx30 hF
theorem fr_X12_without_B85 {N : Nat}  {nx30 : (Int × Int × Sto) → Option (Int × Sto)} {nx85 : (Int × Sto) → Option (Int × Sto)} {v1 : Int} {v2 : Int} {v3 : Int} {v4 : Int} {v5 : Int} {σ : Sto} {res : Int × Sto} (hnx30 : ∀ q, nx30 q = some res → Fr (Wr_X12_without) q.2.2 res.2) (hnx85 : ∀ q, nx85 q = some res → Fr (Wr_X12_without) q.2 res.2) (hF : F_X12_without_B85 N nx30 nx85 v1 v2 v3 v4 v5 σ = some res) : Fr (Wr_X12_without) σ res.2 := by
  unfold F_X12_without_B85 at hF
  by_cases c14 : 3 ≤ v5
  · have hF := (if_pos c14).symm.trans hF
    exact fr_X12_without_J119 hnx30 hF
  · have hF := (if_neg c14).symm.trans hF
    obtain ⟨b15, hF⟩ := inb_some hF
    obtain ⟨q16, eq16, hF⟩ := bind_some' hF
    exact Fr_tr (Fr_tr Fr.rf (Fr_mono (fr_X12_lay (res := q16) eq16) (fun a j h => by have h : Wr_X12_lay a j := h; unfold Wr_X12_lay at h; unfold Wr_X12_without; (exact (Or.inr (Or.inr (Or.inr (Or.inr (Or.inr (by omega)))))))))) (hnx85 ((ja v5 1), q16) hF)
theorem fr_X12_without_B30 {N : Nat}  {nx30 : (Int × Int × Sto) → Option (Int × Sto)} {v1 : Int} {v2 : Int} {v3 : Int} {σ : Sto} {res : Int × Sto} (hnx30 : ∀ q, nx30 q = some res → Fr (Wr_X12_without) q.2.2 res.2) (hF : F_X12_without_B30 N nx30 v1 v2 v3 σ = some res) : Fr (Wr_X12_without) σ res.2 := by
  unfold F_X12_without_B30 at hF
  obtain ⟨b6, hF⟩ := inb_some hF
  by_cases c7 : (σ.1 101 0) ≤ v3
  · have hF := (if_pos c7).symm.trans hF
    exact fr_X12_without_J128  hF
  · have hF := (if_neg c7).symm.trans hF
    obtain ⟨b8, hF⟩ := inb_some hF
    obtain ⟨q9, eq9, hF⟩ := bind_some' hF
    by_cases c10 : q9 = v1
    · have hF := (if_pos c10).symm.trans hF
      exact fr_X12_without_J122 hnx30 hF
    · have hF := (if_neg c10).symm.trans hF
      obtain ⟨b11, hF⟩ := inb_some hF
      obtain ⟨q12, eq12, hF⟩ := bind_some' hF
      by_cases c13 : q12 = v1
      · have hF := (if_pos c13).symm.trans hF
        exact fr_X12_without_J122 hnx30 hF
      · have hF := (if_neg c13).symm.trans hF
        exact (loopK_ind (res := res) (P := fun (q : Int × Sto) => Fr (Wr_X12_without) q.2 res.2) (fun nx q hn hF => fr_X12_without_B85 hnx30 hn hF) N (0, σ) hF)
theorem fr_X12_without {N : Nat} {v1 : Int} {σ : Sto} {res : Int × Sto} (hF : F_X12_without N v1 σ = some res) : Fr (Wr_X12_without) σ res.2 := by
  unfold F_X12_without at hF
  obtain ⟨q1, eq1, hF⟩ := bind_some' hF
  by_cases c2 : q1 = 0
  · have hF := (if_pos c2).symm.trans hF
    obtain rfl := Option.some.inj hF
    exact (Fr_up Fr.rf (show Wr_X12_without _ _ from (Or.inl (by omega))))
  · have hF := (if_neg c2).symm.trans hF
    obtain ⟨q3, eq3, hF⟩ := bind_some' hF
    exact Fr_tr (Fr_up (Fr_tr (Fr_up Fr.rf (show Wr_X12_without _ _ from (Or.inl (by omega)))) (Fr_mono (fr_X12_copyBank (res := q3) eq3) (fun a j h => by have h : Wr_X12_copyBank a j := h; unfold Wr_X12_copyBank at h; unfold Wr_X12_without; (exact (Or.inr (Or.inr (Or.inr (Or.inr (Or.inr (by omega)))))))))) (show Wr_X12_without _ _ from (Or.inr (Or.inl (by omega))))) (loopK_ind (res := res) (P := fun (q : Int × Int × Sto) => Fr (Wr_X12_without) q.2.2 res.2) (fun nx q hn hF => fr_X12_without_B30 hn hF) N (0, 0, (upI q3 94 24 1)) hF)
def Wr_X12_worth (a : Nat) (j : Int) : Prop := (a = 94 ∧ j = 2) ∨ (a = 94 ∧ j = 30) ∨ (a = 94 ∧ j = 37) ∨ ((102 ≤ a ∧ a ≤ 110))
theorem fr_X12_worth {N : Nat} {v1 : Int} {v2 : Int} {v3 : Int} {σ : Sto} {res : Int × Sto} (hF : F_X12_worth N v1 v2 v3 σ = some res) : Fr (Wr_X12_worth) σ res.2 := by
  unfold F_X12_worth at hF
  obtain ⟨q1, eq1, hF⟩ := bind_some' hF
  by_cases c2 : q1 = 0
  · have hF := (if_pos c2).symm.trans hF
    obtain rfl := Option.some.inj hF
    exact (Fr_up Fr.rf (show Wr_X12_worth _ _ from (Or.inl (by omega))))
  · have hF := (if_neg c2).symm.trans hF
    obtain ⟨q3, eq3, hF⟩ := bind_some' hF
    by_cases c4 : q3 = 0
    · have hF := (if_pos c4).symm.trans hF
      obtain rfl := Option.some.inj hF
      exact (Fr_up Fr.rf (show Wr_X12_worth _ _ from (Or.inl (by omega))))
    · have hF := (if_neg c4).symm.trans hF
      obtain ⟨q5, eq5, hF⟩ := bind_some' hF
      obtain ⟨b6, hF⟩ := inb_some hF
      obtain ⟨q7, eq7, hF⟩ := bind_some' hF
      obtain ⟨b8, hF⟩ := inb_some hF
      obtain ⟨q9, eq9, hF⟩ := bind_some' hF
      obtain rfl := Option.some.inj hF
      exact (Fr_tr (Fr_up (Fr_tr (Fr_tr (Fr_up Fr.rf (show Wr_X12_worth _ _ from (Or.inl (by omega)))) (Fr_mono (fr_X12_solves (res := q5) eq5) (fun a j h => by
      unfold Wr_X12_solves at h
      unfold Wr_X12_worth
      rcases h with h | h | h
      · exact (Or.inr (Or.inl (by omega)))
      · exact (Or.inr (Or.inr (Or.inl (by omega))))
      · exact (Or.inr (Or.inr (Or.inr (by omega))))))) (Fr_mono (fr_X12_laysAll (res := q7) eq7) (fun a j h => by
      unfold Wr_X12_laysAll at h
      unfold Wr_X12_worth
      rcases h with h | h
      · exact (Or.inr (Or.inl (by omega)))
      · exact (Or.inr (Or.inr (Or.inr (by omega))))))) (show Wr_X12_worth _ _ from (Or.inr (Or.inr (Or.inr (by omega)))))) (Fr_mono (fr_X12_relieves (res := q9) eq9) (fun a j h => by
      unfold Wr_X12_relieves at h
      unfold Wr_X12_worth
      rcases h with h | h
      · exact (Or.inr (Or.inr (Or.inl (by omega))))
      · exact (Or.inr (Or.inr (Or.inr (by omega)))))))
def Wr_X12_lack (a : Nat) (j : Int) : Prop := (a = 94 ∧ j = 2) ∨ (a = 94 ∧ j = 30) ∨ (a = 94 ∧ j = 37) ∨ ((102 ≤ a ∧ a ≤ 110))
theorem fr_X12_lack_J85 {N : Nat}   {v4 : Int} {t1 : Int} {t2 : Int} {σ : Sto} {res : Int × Sto} (hF : F_X12_lack_J85 N  v4 t1 t2 σ = some res) : Fr (Wr_X12_lack) σ res.2 := by
  unfold F_X12_lack_J85 at hF
  obtain ⟨b5, hF⟩ := inb_some hF
  obtain ⟨q6, eq6, hF⟩ := bind_some' hF
  obtain rfl := Option.some.inj hF
  exact (Fr_tr (Fr_up Fr.rf (show Wr_X12_lack _ _ from (Or.inr (Or.inr (Or.inr (by omega)))))) (Fr_mono (fr_X12_relieves (res := q6) eq6) (fun a j h => by
      unfold Wr_X12_relieves at h
      unfold Wr_X12_lack
      rcases h with h | h
      · exact (Or.inr (Or.inr (Or.inl (by omega))))
      · exact (Or.inr (Or.inr (Or.inr (by omega)))))))
theorem fr_X12_lack {N : Nat} {v1 : Int} {v2 : Int} {v3 : Int} {σ : Sto} {res : Int × Sto} (hF : F_X12_lack N v1 v2 v3 σ = some res) : Fr (Wr_X12_lack) σ res.2 := by
  unfold F_X12_lack at hF
  obtain ⟨q1, eq1, hF⟩ := bind_some' hF
  by_cases c2 : q1 = 0
  · have hF := (if_pos c2).symm.trans hF
    obtain rfl := Option.some.inj hF
    exact (Fr_up Fr.rf (show Wr_X12_lack _ _ from (Or.inl (by omega))))
  · have hF := (if_neg c2).symm.trans hF
    obtain ⟨q3, eq3, hF⟩ := bind_some' hF
    by_cases c4 : q3 = 0
    · have hF := (if_pos c4).symm.trans hF
      obtain rfl := Option.some.inj hF
      exact (Fr_up Fr.rf (show Wr_X12_lack _ _ from (Or.inl (by omega))))
    · have hF := (if_neg c4).symm.trans hF
      obtain ⟨q7, eq7, hF⟩ := bind_some' hF
      obtain ⟨b8, hF⟩ := inb_some hF
      obtain ⟨q9, eq9, hF⟩ := bind_some' hF
      obtain ⟨b10, hF⟩ := inb_some hF
      by_cases c11 : (q9.1 106 (ja (jm 12 v1) v2)) ≤ v3
      · have hF := (if_pos c11).symm.trans hF
        exact Fr_tr (Fr_tr (Fr_tr (Fr_up Fr.rf (show Wr_X12_lack _ _ from (Or.inl (by omega)))) (Fr_mono (fr_X12_solves (res := q7) eq7) (fun a j h => by
      unfold Wr_X12_solves at h
      unfold Wr_X12_lack
      rcases h with h | h | h
      · exact (Or.inr (Or.inl (by omega)))
      · exact (Or.inr (Or.inr (Or.inl (by omega))))
      · exact (Or.inr (Or.inr (Or.inr (by omega))))))) (Fr_mono (fr_X12_laysAll (res := q9) eq9) (fun a j h => by
      unfold Wr_X12_laysAll at h
      unfold Wr_X12_lack
      rcases h with h | h
      · exact (Or.inr (Or.inl (by omega)))
      · exact (Or.inr (Or.inr (Or.inr (by omega))))))) (fr_X12_lack_J85  hF)
      · have hF := (if_neg c11).symm.trans hF
        exact Fr_tr (Fr_tr (Fr_tr (Fr_up Fr.rf (show Wr_X12_lack _ _ from (Or.inl (by omega)))) (Fr_mono (fr_X12_solves (res := q7) eq7) (fun a j h => by
      unfold Wr_X12_solves at h
      unfold Wr_X12_lack
      rcases h with h | h | h
      · exact (Or.inr (Or.inl (by omega)))
      · exact (Or.inr (Or.inr (Or.inl (by omega))))
      · exact (Or.inr (Or.inr (Or.inr (by omega))))))) (Fr_mono (fr_X12_laysAll (res := q9) eq9) (fun a j h => by
      unfold Wr_X12_laysAll at h
      unfold Wr_X12_lack
      rcases h with h | h
      · exact (Or.inr (Or.inl (by omega)))
      · exact (Or.inr (Or.inr (Or.inr (by omega))))))) (fr_X12_lack_J85  hF)
def Wr_X12_byGateOf (a : Nat) (j : Int) : Prop := (a = 94 ∧ j = 30) ∨ (a = 94 ∧ j = 37) ∨ ((102 ≤ a ∧ a ≤ 110))
theorem fr_X12_byGateOf {N : Nat} {v1 : Int} {σ : Sto} {res : Int × Sto} (hF : F_X12_byGateOf N v1 σ = some res) : Fr (Wr_X12_byGateOf) σ res.2 := by
  unfold F_X12_byGateOf at hF
  obtain ⟨q1, eq1, hF⟩ := bind_some' hF
  obtain ⟨q2, eq2, hF⟩ := bind_some' hF
  obtain rfl := Option.some.inj hF
  exact (Fr_tr (Fr_tr Fr.rf (Fr_mono (fr_X12_laysAll (res := q1) eq1) (fun a j h => by
      unfold Wr_X12_laysAll at h
      unfold Wr_X12_byGateOf
      rcases h with h | h
      · exact (Or.inl (by omega))
      · exact (Or.inr (Or.inr (by omega)))))) (Fr_mono (fr_X12_relieves (res := q2) eq2) (fun a j h => by
      unfold Wr_X12_relieves at h
      unfold Wr_X12_byGateOf
      rcases h with h | h
      · exact (Or.inr (Or.inl (by omega)))
      · exact (Or.inr (Or.inr (by omega))))))
def Wr_X12_byCarry (a : Nat) (j : Int) : Prop := (a = 94 ∧ j = 2) ∨ (a = 94 ∧ j = 30) ∨ (a = 94 ∧ j = 33) ∨ (a = 94 ∧ j = 37) ∨ ((102 ≤ a ∧ a ≤ 110))
theorem fr_X12_byCarry {N : Nat} {v1 : Int} {σ : Sto} {res : Int × Sto} (hF : F_X12_byCarry N v1 σ = some res) : Fr (Wr_X12_byCarry) σ res.2 := by
  unfold F_X12_byCarry at hF
  obtain ⟨q1, eq1, hF⟩ := bind_some' hF
  by_cases c2 : q1 = 0
  · have hF := (if_pos c2).symm.trans hF
    obtain rfl := Option.some.inj hF
    exact (Fr_up Fr.rf (show Wr_X12_byCarry _ _ from (Or.inl (by omega))))
  · have hF := (if_neg c2).symm.trans hF
    obtain ⟨b3, hF⟩ := inb_some hF
    obtain ⟨q4, eq4, hF⟩ := bind_some' hF
    obtain ⟨b5, hF⟩ := inb_some hF
    obtain rfl := Option.some.inj hF
    exact (Fr_up (Fr_tr (Fr_up (Fr_up Fr.rf (show Wr_X12_byCarry _ _ from (Or.inl (by omega)))) (show Wr_X12_byCarry _ _ from (Or.inr (Or.inr (Or.inl (by omega)))))) (Fr_mono (fr_X12_byGateOf (res := q4) eq4) (fun a j h => by
      unfold Wr_X12_byGateOf at h
      unfold Wr_X12_byCarry
      rcases h with h | h | h
      · exact (Or.inr (Or.inl (by omega)))
      · exact (Or.inr (Or.inr (Or.inr (Or.inl (by omega)))))
      · exact (Or.inr (Or.inr (Or.inr (Or.inr (by omega)))))))) (show Wr_X12_byCarry _ _ from (Or.inr (Or.inr (Or.inl (by omega))))))
def Wr_X12_carried (a : Nat) (j : Int) : Prop := (a = 94 ∧ j = 2) ∨ (a = 94 ∧ j = 30) ∨ (a = 94 ∧ j = 37) ∨ ((102 ≤ a ∧ a ≤ 110))
theorem fr_X12_carried_J153 {N : Nat}  {nx102 : (Int × Int) → Option (Int × Sto)} {v1 : Int} {v3 : Int} {t0 : Int} {t1 : Int} {σ : Sto} {res : Int × Sto} (hnx102 : ∀ q, nx102 q = some res → Fr (Wr_X12_carried) σ res.2) (hF : F_X12_carried_J153 N nx102 v1 v3 t0 t1 σ = some res) : Fr (Wr_X12_carried) σ res.2 := by
  unfold F_X12_carried_J153 at hF
  exact hnx102 _ hF
theorem fr_X12_carried_J152 {N : Nat}  {nx102 : (Int × Int) → Option (Int × Sto)} {v1 : Int} {v3 : Int} {t0 : Int} {σ : Sto} {res : Int × Sto} (hnx102 : ∀ q, nx102 q = some res → Fr (Wr_X12_carried) σ res.2) (hF : F_X12_carried_J152 N nx102 v1 v3 t0 σ = some res) : Fr (Wr_X12_carried) σ res.2 := by
  unfold F_X12_carried_J152 at hF
  exact fr_X12_carried_J153 hnx102 hF
theorem fr_X12_carried_J140 {N : Nat}  {nx102 : (Int × Int) → Option (Int × Sto)} {v1 : Int} {v3 : Int} {t0 : Int} {t1 : Int} {t2 : Int} {σ : Sto} {res : Int × Sto} (hnx102 : ∀ q, nx102 q = some res → Fr (Wr_X12_carried) σ res.2) (hF : F_X12_carried_J140 N nx102 v1 v3 t0 t1 t2 σ = some res) : Fr (Wr_X12_carried) σ res.2 := by
  unfold F_X12_carried_J140 at hF
  by_cases c8 : t1 = t2
  · have hF := (if_pos c8).symm.trans hF
    obtain ⟨b9, hF⟩ := inb_some hF
    exact fr_X12_carried_J153 hnx102 hF
  · have hF := (if_neg c8).symm.trans hF
    exact fr_X12_carried_J152 hnx102 hF
theorem fr_X12_carried_B102 {N : Nat}  {nx102 : (Int × Int) → Option (Int × Sto)} {v1 : Int} {v2 : Int} {v3 : Int} {σ : Sto} {res : Int × Sto} (hnx102 : ∀ q, nx102 q = some res → Fr (Wr_X12_carried) σ res.2) (hF : F_X12_carried_B102 N nx102 v1 v2 v3 σ = some res) : Fr (Wr_X12_carried) σ res.2 := by
  unfold F_X12_carried_B102 at hF
  by_cases c5 : 144 ≤ v3
  · have hF := (if_pos c5).symm.trans hF
    obtain rfl := Option.some.inj hF
    exact Fr.rf
  · have hF := (if_neg c5).symm.trans hF
    obtain ⟨b6, hF⟩ := inb_some hF
    by_cases c7 : (σ.1 107 v3) ≤ 0
    · have hF := (if_pos c7).symm.trans hF
      exact fr_X12_carried_J152 hnx102 hF
    · have hF := (if_neg c7).symm.trans hF
      obtain ⟨q10, eq10, hF⟩ := bind_some' hF
      by_cases c11 : v1 = 0
      · have hF := (if_pos c11).symm.trans hF
        exact fr_X12_carried_J140 hnx102 hF
      · have hF := (if_neg c11).symm.trans hF
        exact fr_X12_carried_J140 hnx102 hF
theorem fr_X12_carried_J85 {N : Nat}  {nx25 : (Int × Int) → Option (Int × Sto)} {v1 : Int} {v3 : Int} {t0 : Int} {t1 : Int} {σ : Sto} {res : Int × Sto} (hnx25 : ∀ q, nx25 q = some res → Fr (Wr_X12_carried) σ res.2) (hF : F_X12_carried_J85 N nx25 v1 v3 t0 t1 σ = some res) : Fr (Wr_X12_carried) σ res.2 := by
  unfold F_X12_carried_J85 at hF
  exact hnx25 _ hF
theorem fr_X12_carried_J70 {N : Nat}  {nx25 : (Int × Int) → Option (Int × Sto)} {v1 : Int} {v3 : Int} {v4 : Int} {t0 : Int} {t1 : Int} {t2 : Int} {σ : Sto} {res : Int × Sto} (hnx25 : ∀ q, nx25 q = some res → Fr (Wr_X12_carried) σ res.2) (hF : F_X12_carried_J70 N nx25 v1 v3 v4 t0 t1 t2 σ = some res) : Fr (Wr_X12_carried) σ res.2 := by
  unfold F_X12_carried_J70 at hF
  by_cases c14 : t1 = t2
  · have hF := (if_pos c14).symm.trans hF
    obtain ⟨q15, eq15, hF⟩ := bind_some' hF
    exact fr_X12_carried_J85 hnx25 hF
  · have hF := (if_neg c14).symm.trans hF
    exact fr_X12_carried_J85 hnx25 hF
theorem fr_X12_carried_B25 {N : Nat}  {nx25 : (Int × Int) → Option (Int × Sto)} {v1 : Int} {v2 : Int} {v3 : Int} {σ : Sto} {res : Int × Sto} (hnx25 : ∀ q, nx25 q = some res → Fr (Wr_X12_carried) σ res.2) (hF : F_X12_carried_B25 N nx25 v1 v2 v3 σ = some res) : Fr (Wr_X12_carried) σ res.2 := by
  unfold F_X12_carried_B25 at hF
  obtain ⟨q12, eq12, hF⟩ := bind_some' hF
  by_cases c13 : q12 ≤ v3
  · have hF := (if_pos c13).symm.trans hF
    obtain rfl := Option.some.inj hF
    exact Fr.rf
  · have hF := (if_neg c13).symm.trans hF
    obtain ⟨q16, eq16, hF⟩ := bind_some' hF
    obtain ⟨q17, eq17, hF⟩ := bind_some' hF
    obtain ⟨q18, eq18, hF⟩ := bind_some' hF
    by_cases c19 : v1 = 2
    · have hF := (if_pos c19).symm.trans hF
      exact fr_X12_carried_J70 hnx25 hF
    · have hF := (if_neg c19).symm.trans hF
      exact fr_X12_carried_J70 hnx25 hF
theorem fr_X12_carried {N : Nat} {v1 : Int} {σ : Sto} {res : Int × Sto} (hF : F_X12_carried N v1 σ = some res) : Fr (Wr_X12_carried) σ res.2 := by
  unfold F_X12_carried at hF
  obtain ⟨q1, eq1, hF⟩ := bind_some' hF
  by_cases c2 : q1 = 0
  · have hF := (if_pos c2).symm.trans hF
    obtain rfl := Option.some.inj hF
    exact (Fr_up Fr.rf (show Wr_X12_carried _ _ from (Or.inl (by omega))))
  · have hF := (if_neg c2).symm.trans hF
    by_cases c3 : v1 ≤ 1
    · have hF := (if_pos c3).symm.trans hF
      obtain ⟨q4, eq4, hF⟩ := bind_some' hF
      exact Fr_tr (Fr_tr (Fr_up Fr.rf (show Wr_X12_carried _ _ from (Or.inl (by omega)))) (Fr_mono (fr_X12_solves (res := q4) eq4) (fun a j h => by
      unfold Wr_X12_solves at h
      unfold Wr_X12_carried
      rcases h with h | h | h
      · exact (Or.inr (Or.inl (by omega)))
      · exact (Or.inr (Or.inr (Or.inl (by omega))))
      · exact (Or.inr (Or.inr (Or.inr (by omega))))))) (loopK_ind (res := res) (P := fun (q : Int × Int) => Fr (Wr_X12_carried) q4.2 res.2) (fun nx q hn hF => fr_X12_carried_B102 hn hF) N (0, 0) hF)
    · have hF := (if_neg c3).symm.trans hF
      exact Fr_tr (Fr_up Fr.rf (show Wr_X12_carried _ _ from (Or.inl (by omega)))) (loopK_ind (res := res) (P := fun (q : Int × Int) => Fr (Wr_X12_carried) (upI σ 94 2 0) res.2) (fun nx q hn hF => fr_X12_carried_B25 hn hF) N (0, 0) hF)
def Wr_X12_route (a : Nat) (j : Int) : Prop := (a = 94 ∧ j = 2) ∨ (a = 94 ∧ j = 30) ∨ ((102 ≤ a ∧ a ≤ 110))
theorem fr_X12_route_J67 {N : Nat}    {σ : Sto} {res : Int × Sto} (hF : F_X12_route_J67 N   σ = some res) : Fr (Wr_X12_route) σ res.2 := by
  unfold F_X12_route_J67 at hF
  obtain rfl := Option.some.inj hF
  exact Fr.rf
theorem fr_X12_route_J44 {N : Nat}   {v1 : Int} {σ : Sto} {res : Int × Sto} (hF : F_X12_route_J44 N  v1 σ = some res) : Fr (Wr_X12_route) σ res.2 := by
  unfold F_X12_route_J44 at hF
  obtain ⟨q4, eq4, hF⟩ := bind_some' hF
  obtain ⟨q5, eq5, hF⟩ := bind_some' hF
  by_cases c6 : q5 < 0
  · have hF := (if_pos c6).symm.trans hF
    exact Fr_tr (Fr_tr Fr.rf (Fr_mono (fr_X12_laysRoutes (res := q4) eq4) (fun a j h => by have h : Wr_X12_laysRoutes a j := h; unfold Wr_X12_laysRoutes at h; unfold Wr_X12_route; (exact (Or.inr (Or.inr (by omega))))))) (fr_X12_route_J67  hF)
  · have hF := (if_neg c6).symm.trans hF
    obtain ⟨b7, hF⟩ := inb_some hF
    by_cases c8 : v1 < (q4.1 109 q5)
    · have hF := (if_pos c8).symm.trans hF
      obtain ⟨b9, hF⟩ := inb_some hF
      obtain rfl := Option.some.inj hF
      exact (Fr_tr Fr.rf (Fr_mono (fr_X12_laysRoutes (res := q4) eq4) (fun a j h => by have h : Wr_X12_laysRoutes a j := h; unfold Wr_X12_laysRoutes at h; unfold Wr_X12_route; (exact (Or.inr (Or.inr (by omega)))))))
    · have hF := (if_neg c8).symm.trans hF
      exact Fr_tr (Fr_tr Fr.rf (Fr_mono (fr_X12_laysRoutes (res := q4) eq4) (fun a j h => by have h : Wr_X12_laysRoutes a j := h; unfold Wr_X12_laysRoutes at h; unfold Wr_X12_route; (exact (Or.inr (Or.inr (by omega))))))) (fr_X12_route_J67  hF)
theorem fr_X12_route_B24 {N : Nat}  {nx24 : (Int × Sto) → Option (Int × Sto)} {v1 : Int} {v2 : Int} {σ : Sto} {res : Int × Sto} (hnx24 : ∀ q, nx24 q = some res → Fr (Wr_X12_route) q.2 res.2) (hF : F_X12_route_B24 N nx24 v1 v2 σ = some res) : Fr (Wr_X12_route) σ res.2 := by
  unfold F_X12_route_B24 at hF
  by_cases c10 : 144 ≤ v2
  · have hF := (if_pos c10).symm.trans hF
    exact fr_X12_route_J44  hF
  · have hF := (if_neg c10).symm.trans hF
    obtain ⟨b11, hF⟩ := inb_some hF
    exact Fr_tr (Fr_up Fr.rf (show Wr_X12_route _ _ from (Or.inr (Or.inr (by omega))))) (hnx24 ((ja v2 1), (upI σ 107 v2 0)) hF)
theorem fr_X12_route {N : Nat} {v1 : Int} {σ : Sto} {res : Int × Sto} (hF : F_X12_route N v1 σ = some res) : Fr (Wr_X12_route) σ res.2 := by
  unfold F_X12_route at hF
  by_cases c1 : 0 ≤ v1
  · have hF := (if_pos c1).symm.trans hF
    obtain ⟨b2, hF⟩ := inb_some hF
    obtain ⟨q3, eq3, hF⟩ := bind_some' hF
    exact Fr_tr (Fr_tr (Fr_up Fr.rf (show Wr_X12_route _ _ from (Or.inl (by omega)))) (Fr_mono (fr_X12_laysAll (res := q3) eq3) (fun a j h => by
      unfold Wr_X12_laysAll at h
      unfold Wr_X12_route
      rcases h with h | h
      · exact (Or.inr (Or.inl (by omega)))
      · exact (Or.inr (Or.inr (by omega)))))) (loopK_ind (res := res) (P := fun (q : Int × Sto) => Fr (Wr_X12_route) q.2 res.2) (fun nx q hn hF => fr_X12_route_B24 hn hF) N (0, q3) hF)
  · have hF := (if_neg c1).symm.trans hF
    obtain rfl := Option.some.inj hF
    exact (Fr_up Fr.rf (show Wr_X12_route _ _ from (Or.inl (by omega))))
def Wr_X12_steps (a : Nat) (j : Int) : Prop := (a = 94 ∧ j = 2)
theorem fr_X12_steps_J129 {N : Nat}  {nx31 : (Int × Int) → Option (Int × Sto)} {v2 : Int} {v3 : Int} {v5 : Int} {v6 : Int} {σ : Sto} {res : Int × Sto} (hnx31 : ∀ q, nx31 q = some res → Fr (Wr_X12_steps) σ res.2) (hF : F_X12_steps_J129 N nx31 v2 v3 v5 v6 σ = some res) : Fr (Wr_X12_steps) σ res.2 := by
  unfold F_X12_steps_J129 at hF
  exact hnx31 _ hF
theorem fr_X12_steps_J123 {N : Nat}  {nx31 : (Int × Int) → Option (Int × Sto)} {nx57 : (Int × Int) → Option (Int × Sto)} {v2 : Int} {v3 : Int} {v4 : Int} {v5 : Int} {v6 : Int} {v7 : Int} {σ : Sto} {res : Int × Sto} (hnx31 : ∀ q, nx31 q = some res → Fr (Wr_X12_steps) σ res.2) (hnx57 : ∀ q, nx57 q = some res → Fr (Wr_X12_steps) σ res.2) (hF : F_X12_steps_J123 N nx31 nx57 v2 v3 v4 v5 v6 v7 σ = some res) : Fr (Wr_X12_steps) σ res.2 := by
  unfold F_X12_steps_J123 at hF
  exact hnx57 _ hF
theorem fr_X12_steps_J114 {N : Nat}  {nx31 : (Int × Int) → Option (Int × Sto)} {nx57 : (Int × Int) → Option (Int × Sto)} {nx72 : (Int × Int) → Option (Int × Sto)} {v2 : Int} {v3 : Int} {v4 : Int} {v5 : Int} {v7 : Int} {v8 : Int} {t0 : Int} {t1 : Int} {σ : Sto} {res : Int × Sto} (hnx31 : ∀ q, nx31 q = some res → Fr (Wr_X12_steps) σ res.2) (hnx57 : ∀ q, nx57 q = some res → Fr (Wr_X12_steps) σ res.2) (hnx72 : ∀ q, nx72 q = some res → Fr (Wr_X12_steps) σ res.2) (hF : F_X12_steps_J114 N nx31 nx57 nx72 v2 v3 v4 v5 v7 v8 t0 t1 σ = some res) : Fr (Wr_X12_steps) σ res.2 := by
  unfold F_X12_steps_J114 at hF
  exact hnx72 _ hF
theorem fr_X12_steps_J113 {N : Nat}  {nx31 : (Int × Int) → Option (Int × Sto)} {nx57 : (Int × Int) → Option (Int × Sto)} {nx72 : (Int × Int) → Option (Int × Sto)} {v2 : Int} {v3 : Int} {v4 : Int} {v5 : Int} {v7 : Int} {v8 : Int} {t0 : Int} {σ : Sto} {res : Int × Sto} (hnx31 : ∀ q, nx31 q = some res → Fr (Wr_X12_steps) σ res.2) (hnx57 : ∀ q, nx57 q = some res → Fr (Wr_X12_steps) σ res.2) (hnx72 : ∀ q, nx72 q = some res → Fr (Wr_X12_steps) σ res.2) (hF : F_X12_steps_J113 N nx31 nx57 nx72 v2 v3 v4 v5 v7 v8 t0 σ = some res) : Fr (Wr_X12_steps) σ res.2 := by
  unfold F_X12_steps_J113 at hF
  exact fr_X12_steps_J114 hnx31 hnx57 hnx72 hF
theorem fr_X12_steps_B72 {N : Nat}  {nx31 : (Int × Int) → Option (Int × Sto)} {nx57 : (Int × Int) → Option (Int × Sto)} {nx72 : (Int × Int) → Option (Int × Sto)} {v2 : Int} {v3 : Int} {v4 : Int} {v5 : Int} {v7 : Int} {v6 : Int} {v8 : Int} {σ : Sto} {res : Int × Sto} (hnx31 : ∀ q, nx31 q = some res → Fr (Wr_X12_steps) σ res.2) (hnx57 : ∀ q, nx57 q = some res → Fr (Wr_X12_steps) σ res.2) (hnx72 : ∀ q, nx72 q = some res → Fr (Wr_X12_steps) σ res.2) (hF : F_X12_steps_B72 N nx31 nx57 nx72 v2 v3 v4 v5 v7 v6 v8 σ = some res) : Fr (Wr_X12_steps) σ res.2 := by
  unfold F_X12_steps_B72 at hF
  by_cases c8 : (σ.1 94 11) ≤ v8
  · have hF := (if_pos c8).symm.trans hF
    exact fr_X12_steps_J123 hnx31 hnx57 hF
  · have hF := (if_neg c8).symm.trans hF
    by_cases c9 : (jand (jshr v4 v7) 1) = 1
    · have hF := (if_pos c9).symm.trans hF
      obtain ⟨q10, eq10, hF⟩ := bind_some' hF
      by_cases c11 : q10 ≤ 0
      · have hF := (if_pos c11).symm.trans hF
        exact fr_X12_steps_J113 hnx31 hnx57 hnx72 hF
      · have hF := (if_neg c11).symm.trans hF
        exact fr_X12_steps_J114 hnx31 hnx57 hnx72 hF
    · have hF := (if_neg c9).symm.trans hF
      exact fr_X12_steps_J113 hnx31 hnx57 hnx72 hF
theorem fr_X12_steps_B57 {N : Nat}  {nx31 : (Int × Int) → Option (Int × Sto)} {nx57 : (Int × Int) → Option (Int × Sto)} {v2 : Int} {v3 : Int} {v4 : Int} {v5 : Int} {v6 : Int} {v7 : Int} {σ : Sto} {res : Int × Sto} (hnx31 : ∀ q, nx31 q = some res → Fr (Wr_X12_steps) σ res.2) (hnx57 : ∀ q, nx57 q = some res → Fr (Wr_X12_steps) σ res.2) (hF : F_X12_steps_B57 N nx31 nx57 v2 v3 v4 v5 v6 v7 σ = some res) : Fr (Wr_X12_steps) σ res.2 := by
  unfold F_X12_steps_B57 at hF
  by_cases c7 : (σ.1 94 11) ≤ v7
  · have hF := (if_pos c7).symm.trans hF
    exact fr_X12_steps_J129 hnx31 hF
  · have hF := (if_neg c7).symm.trans hF
    exact (loopK_ind (res := res) (P := fun (q : Int × Int) => Fr (Wr_X12_steps) σ res.2) (fun nx q hn hF => fr_X12_steps_B72 hnx31 hnx57 hn hF) N (v6, (ja v7 1)) hF)
theorem fr_X12_steps_B31 {N : Nat}  {nx31 : (Int × Int) → Option (Int × Sto)} {v2 : Int} {v3 : Int} {v4 : Int} {v5 : Int} {σ : Sto} {res : Int × Sto} (hnx31 : ∀ q, nx31 q = some res → Fr (Wr_X12_steps) σ res.2) (hF : F_X12_steps_B31 N nx31 v2 v3 v4 v5 σ = some res) : Fr (Wr_X12_steps) σ res.2 := by
  unfold F_X12_steps_B31 at hF
  by_cases c5 : 8 ≤ v5
  · have hF := (if_pos c5).symm.trans hF
    obtain rfl := Option.some.inj hF
    exact Fr.rf
  · have hF := (if_neg c5).symm.trans hF
    by_cases c6 : (jand (jshr v4 v2) 1) = 1
    · have hF := (if_pos c6).symm.trans hF
      obtain rfl := Option.some.inj hF
      exact Fr.rf
    · have hF := (if_neg c6).symm.trans hF
      exact (loopK_ind (res := res) (P := fun (q : Int × Int) => Fr (Wr_X12_steps) σ res.2) (fun nx q hn hF => fr_X12_steps_B57 hnx31 hn hF) N (0, 0) hF)
theorem fr_X12_steps {N : Nat} {v1 : Int} {v2 : Int} {v3 : Int} {σ : Sto} {res : Int × Sto} (hF : F_X12_steps N v1 v2 v3 σ = some res) : Fr (Wr_X12_steps) σ res.2 := by
  unfold F_X12_steps at hF
  obtain ⟨q1, eq1, hF⟩ := bind_some' hF
  by_cases c2 : q1 = 0
  · have hF := (if_pos c2).symm.trans hF
    obtain rfl := Option.some.inj hF
    exact (Fr_up Fr.rf (show Wr_X12_steps _ _ from (by unfold Wr_X12_steps; omega)))
  · have hF := (if_neg c2).symm.trans hF
    obtain ⟨q3, eq3, hF⟩ := bind_some' hF
    by_cases c4 : q3 = 0
    · have hF := (if_pos c4).symm.trans hF
      obtain rfl := Option.some.inj hF
      exact (Fr_up Fr.rf (show Wr_X12_steps _ _ from (by unfold Wr_X12_steps; omega)))
    · have hF := (if_neg c4).symm.trans hF
      exact Fr_tr (Fr_up Fr.rf (show Wr_X12_steps _ _ from (by unfold Wr_X12_steps; omega))) (loopK_ind (res := res) (P := fun (q : Int × Int) => Fr (Wr_X12_steps) (upI σ 94 2 0) res.2) (fun nx q hn hF => fr_X12_steps_B31 hn hF) N ((jshl 1 v1), 0) hF)
def Wr_X12_byGate (a : Nat) (j : Int) : Prop := (a = 94 ∧ j = 2) ∨ (a = 94 ∧ j = 30) ∨ (a = 94 ∧ j = 37) ∨ ((102 ≤ a ∧ a ≤ 110))
theorem fr_X12_byGate {N : Nat} {v1 : Int} {σ : Sto} {res : Int × Sto} (hF : F_X12_byGate N v1 σ = some res) : Fr (Wr_X12_byGate) σ res.2 := by
  unfold F_X12_byGate at hF
  obtain ⟨q1, eq1, hF⟩ := bind_some' hF
  by_cases c2 : q1 = 0
  · have hF := (if_pos c2).symm.trans hF
    obtain rfl := Option.some.inj hF
    exact (Fr_up Fr.rf (show Wr_X12_byGate _ _ from (Or.inl (by omega))))
  · have hF := (if_neg c2).symm.trans hF
    obtain ⟨q3, eq3, hF⟩ := bind_some' hF
    obtain rfl := Option.some.inj hF
    exact (Fr_tr (Fr_up Fr.rf (show Wr_X12_byGate _ _ from (Or.inl (by omega)))) (Fr_mono (fr_X12_byGateOf (res := q3) eq3) (fun a j h => by
      unfold Wr_X12_byGateOf at h
      unfold Wr_X12_byGate
      rcases h with h | h | h
      · exact (Or.inr (Or.inl (by omega)))
      · exact (Or.inr (Or.inr (Or.inl (by omega))))
      · exact (Or.inr (Or.inr (Or.inr (by omega)))))))
def Wr_X12_gateFor (a : Nat) (j : Int) : Prop := (a = 94 ∧ j = 2) ∨ (a = 94 ∧ j = 30) ∨ (a = 94 ∧ j = 37) ∨ ((102 ≤ a ∧ a ≤ 110))
theorem fr_X12_gateFor_B21 {N : Nat}  {nx21 : (Int × Sto) → Option (Int × Sto)} {v1 : Int} {v2 : Int} {σ : Sto} {res : Int × Sto} (hnx21 : ∀ q, nx21 q = some res → Fr (Wr_X12_gateFor) q.2 res.2) (hF : F_X12_gateFor_B21 N nx21 v1 v2 σ = some res) : Fr (Wr_X12_gateFor) σ res.2 := by
  unfold F_X12_gateFor_B21 at hF
  by_cases c3 : v2 ≤ 0
  · have hF := (if_pos c3).symm.trans hF
    obtain rfl := Option.some.inj hF
    exact Fr.rf
  · have hF := (if_neg c3).symm.trans hF
    obtain ⟨q4, eq4, hF⟩ := bind_some' hF
    by_cases c5 : q4.1 < v1
    · have hF := (if_pos c5).symm.trans hF
      exact Fr_tr (Fr_tr Fr.rf (Fr_mono (fr_X12_byGateOf (res := q4) eq4) (fun a j h => by
      unfold Wr_X12_byGateOf at h
      unfold Wr_X12_gateFor
      rcases h with h | h | h
      · exact (Or.inr (Or.inl (by omega)))
      · exact (Or.inr (Or.inr (Or.inl (by omega))))
      · exact (Or.inr (Or.inr (Or.inr (by omega))))))) (hnx21 ((js v2 1), q4.2) hF)
    · have hF := (if_neg c5).symm.trans hF
      obtain rfl := Option.some.inj hF
      exact (Fr_tr Fr.rf (Fr_mono (fr_X12_byGateOf (res := q4) eq4) (fun a j h => by
      unfold Wr_X12_byGateOf at h
      unfold Wr_X12_gateFor
      rcases h with h | h | h
      · exact (Or.inr (Or.inl (by omega)))
      · exact (Or.inr (Or.inr (Or.inl (by omega))))
      · exact (Or.inr (Or.inr (Or.inr (by omega)))))))
theorem fr_X12_gateFor {N : Nat} {v1 : Int} {σ : Sto} {res : Int × Sto} (hF : F_X12_gateFor N v1 σ = some res) : Fr (Wr_X12_gateFor) σ res.2 := by
  unfold F_X12_gateFor at hF
  obtain ⟨q1, eq1, hF⟩ := bind_some' hF
  by_cases c2 : q1 = 0
  · have hF := (if_pos c2).symm.trans hF
    obtain rfl := Option.some.inj hF
    exact (Fr_up Fr.rf (show Wr_X12_gateFor _ _ from (Or.inl (by omega))))
  · have hF := (if_neg c2).symm.trans hF
    exact Fr_tr (Fr_up Fr.rf (show Wr_X12_gateFor _ _ from (Or.inl (by omega)))) (loopK_ind (res := res) (P := fun (q : Int × Sto) => Fr (Wr_X12_gateFor) q.2 res.2) (fun nx q hn hF => fr_X12_gateFor_B21 hn hF) N (100, (upI σ 94 2 0)) hF)
def Wr_X12_days (a : Nat) (j : Int) : Prop := (a = 94 ∧ j = 2) ∨ (a = 94 ∧ j = 30) ∨ ((102 ≤ a ∧ a ≤ 104))
theorem fr_X12_days_J129 {N : Nat}  {nx63 : (Int × Int) → Option (Int × Sto)} {v1 : Int} {v2 : Int} {v3 : Int} {v4 : Int} {v5 : Int} {σ : Sto} {res : Int × Sto} (hnx63 : ∀ q, nx63 q = some res → Fr (Wr_X12_days) σ res.2) (hF : F_X12_days_J129 N nx63 v1 v2 v3 v4 v5 σ = some res) : Fr (Wr_X12_days) σ res.2 := by
  unfold F_X12_days_J129 at hF
  exact hnx63 _ hF
theorem fr_X12_days_B63 {N : Nat}  {nx63 : (Int × Int) → Option (Int × Sto)} {v1 : Int} {v2 : Int} {v3 : Int} {v4 : Int} {v5 : Int} {σ : Sto} {res : Int × Sto} (hnx63 : ∀ q, nx63 q = some res → Fr (Wr_X12_days) σ res.2) (hF : F_X12_days_B63 N nx63 v1 v2 v3 v4 v5 σ = some res) : Fr (Wr_X12_days) σ res.2 := by
  unfold F_X12_days_B63 at hF
  by_cases c9 : (σ.1 94 30) ≤ v5
  · have hF := (if_pos c9).symm.trans hF
    obtain rfl := Option.some.inj hF
    exact Fr.rf
  · have hF := (if_neg c9).symm.trans hF
    obtain ⟨b10, hF⟩ := inb_some hF
    by_cases c11 : (jand (jshr (σ.1 104 (ja (jm 8 v5) v1)) v2) 1) = 0
    · have hF := (if_pos c11).symm.trans hF
      exact fr_X12_days_J129 hnx63 hF
    · have hF := (if_neg c11).symm.trans hF
      by_cases c12 : v3 = 1
      · have hF := (if_pos c12).symm.trans hF
        obtain ⟨b15, hF⟩ := inb_some hF
        exact fr_X12_days_J129 hnx63 hF
      · have hF := (if_neg c12).symm.trans hF
        by_cases c13 : 0 ≤ v4
        · have hF := (if_pos c13).symm.trans hF
          exact fr_X12_days_J129 hnx63 hF
        · have hF := (if_neg c13).symm.trans hF
          obtain ⟨b14, hF⟩ := inb_some hF
          exact fr_X12_days_J129 hnx63 hF
theorem fr_X12_days {N : Nat} {v1 : Int} {v2 : Int} {v3 : Int} {σ : Sto} {res : Int × Sto} (hF : F_X12_days N v1 v2 v3 σ = some res) : Fr (Wr_X12_days) σ res.2 := by
  unfold F_X12_days at hF
  obtain ⟨q1, eq1, hF⟩ := bind_some' hF
  by_cases c2 : q1 = 0
  · have hF := (if_pos c2).symm.trans hF
    obtain rfl := Option.some.inj hF
    exact (Fr_up Fr.rf (show Wr_X12_days _ _ from (Or.inl (by omega))))
  · have hF := (if_neg c2).symm.trans hF
    by_cases c3 : v1 = v2
    · have hF := (if_pos c3).symm.trans hF
      obtain rfl := Option.some.inj hF
      exact (Fr_up Fr.rf (show Wr_X12_days _ _ from (Or.inl (by omega))))
    · have hF := (if_neg c3).symm.trans hF
      obtain ⟨q4, eq4, hF⟩ := bind_some' hF
      by_cases c5 : q4 = 0
      · have hF := (if_pos c5).symm.trans hF
        obtain rfl := Option.some.inj hF
        exact (Fr_up Fr.rf (show Wr_X12_days _ _ from (Or.inl (by omega))))
      · have hF := (if_neg c5).symm.trans hF
        obtain ⟨b6, hF⟩ := inb_some hF
        obtain ⟨q7, eq7, hF⟩ := bind_some' hF
        by_cases c8 : v3 = 2
        · have hF := (if_pos c8).symm.trans hF
          obtain ⟨q16, eq16, hF⟩ := bind_some' hF
          obtain rfl := Option.some.inj hF
          exact (Fr_tr (Fr_up Fr.rf (show Wr_X12_days _ _ from (Or.inl (by omega)))) (Fr_mono (fr_X12_laysStretches (res := q7) eq7) (fun a j h => by
      unfold Wr_X12_laysStretches at h
      unfold Wr_X12_days
      rcases h with h | h
      · exact (Or.inr (Or.inl (by omega)))
      · exact (Or.inr (Or.inr (by omega))))))
        · have hF := (if_neg c8).symm.trans hF
          exact Fr_tr (Fr_tr (Fr_up Fr.rf (show Wr_X12_days _ _ from (Or.inl (by omega)))) (Fr_mono (fr_X12_laysStretches (res := q7) eq7) (fun a j h => by
      unfold Wr_X12_laysStretches at h
      unfold Wr_X12_days
      rcases h with h | h
      · exact (Or.inr (Or.inl (by omega)))
      · exact (Or.inr (Or.inr (by omega)))))) (loopK_ind (res := res) (P := fun (q : Int × Int) => Fr (Wr_X12_days) q7 res.2) (fun nx q hn hF => fr_X12_days_B63 hn hF) N ((-2), 0) hF)
def Wr_X12_ifFirst (a : Nat) (j : Int) : Prop := (a = 94 ∧ j = 2) ∨ (a = 94 ∧ j = 30) ∨ (a = 94 ∧ j = 31) ∨ (a = 94 ∧ j = 32) ∨ (a = 94 ∧ j = 37) ∨ ((102 ≤ a ∧ a ≤ 110))
theorem fr_X12_ifFirst_J87 {N : Nat}   {v1 : Int} {v2 : Int} {σ : Sto} {res : Int × Sto} (hF : F_X12_ifFirst_J87 N  v1 v2 σ = some res) : Fr (Wr_X12_ifFirst) σ res.2 := by
  unfold F_X12_ifFirst_J87 at hF
  obtain ⟨b6, hF⟩ := inb_some hF
  obtain ⟨q7, eq7, hF⟩ := bind_some' hF
  obtain ⟨q8, eq8, hF⟩ := bind_some' hF
  obtain rfl := Option.some.inj hF
  exact (Fr_tr (Fr_up (Fr_tr (Fr_up (Fr_up Fr.rf (show Wr_X12_ifFirst _ _ from (Or.inr (Or.inr (Or.inl (by omega)))))) (show Wr_X12_ifFirst _ _ from (Or.inr (Or.inr (Or.inr (Or.inl (by omega))))))) (Fr_mono (fr_X12_laysAll (res := q7) eq7) (fun a j h => by
      unfold Wr_X12_laysAll at h
      unfold Wr_X12_ifFirst
      rcases h with h | h
      · exact (Or.inr (Or.inl (by omega)))
      · exact (Or.inr (Or.inr (Or.inr (Or.inr (Or.inr (by omega))))))))) (show Wr_X12_ifFirst _ _ from (Or.inr (Or.inr (Or.inl (by omega)))))) (Fr_mono (fr_X12_relieves (res := q8) eq8) (fun a j h => by
      unfold Wr_X12_relieves at h
      unfold Wr_X12_ifFirst
      rcases h with h | h
      · exact (Or.inr (Or.inr (Or.inr (Or.inr (Or.inl (by omega))))))
      · exact (Or.inr (Or.inr (Or.inr (Or.inr (Or.inr (by omega)))))))))
theorem fr_X12_ifFirst_J81 {N : Nat}  {nx30 : (Int) → Option (Int × Sto)} {v1 : Int} {v2 : Int} {v3 : Int} {σ : Sto} {res : Int × Sto} (hnx30 : ∀ q, nx30 q = some res → Fr (Wr_X12_ifFirst) σ res.2) (hF : F_X12_ifFirst_J81 N nx30 v1 v2 v3 σ = some res) : Fr (Wr_X12_ifFirst) σ res.2 := by
  unfold F_X12_ifFirst_J81 at hF
  exact hnx30 _ hF
theorem fr_X12_ifFirst_B30 {N : Nat}  {nx30 : (Int) → Option (Int × Sto)} {v1 : Int} {v2 : Int} {v3 : Int} {σ : Sto} {res : Int × Sto} (hnx30 : ∀ q, nx30 q = some res → Fr (Wr_X12_ifFirst) σ res.2) (hF : F_X12_ifFirst_B30 N nx30 v1 v2 v3 σ = some res) : Fr (Wr_X12_ifFirst) σ res.2 := by
  unfold F_X12_ifFirst_B30 at hF
  by_cases c9 : (σ.1 94 14) ≤ v3
  · have hF := (if_pos c9).symm.trans hF
    exact fr_X12_ifFirst_J87  hF
  · have hF := (if_neg c9).symm.trans hF
    by_cases c10 : v3 = v1
    · have hF := (if_pos c10).symm.trans hF
      exact fr_X12_ifFirst_J81 hnx30 hF
    · have hF := (if_neg c10).symm.trans hF
      obtain ⟨q11, eq11, hF⟩ := bind_some' hF
      obtain ⟨q12, eq12, hF⟩ := bind_some' hF
      by_cases c13 : q11 = q12
      · have hF := (if_pos c13).symm.trans hF
        obtain ⟨q14, eq14, hF⟩ := bind_some' hF
        obtain ⟨q15, eq15, hF⟩ := bind_some' hF
        by_cases c16 : q15 < q14
        · have hF := (if_pos c16).symm.trans hF
          exact fr_X12_ifFirst_J81 hnx30 hF
        · have hF := (if_neg c16).symm.trans hF
          obtain ⟨q17, eq17, hF⟩ := bind_some' hF
          by_cases c18 : q17 < v2
          · have hF := (if_pos c18).symm.trans hF
            exact fr_X12_ifFirst_J81 hnx30 hF
          · have hF := (if_neg c18).symm.trans hF
            obtain rfl := Option.some.inj hF
            exact Fr.rf
      · have hF := (if_neg c13).symm.trans hF
        exact fr_X12_ifFirst_J81 hnx30 hF
theorem fr_X12_ifFirst {N : Nat} {v1 : Int} {v2 : Int} {σ : Sto} {res : Int × Sto} (hF : F_X12_ifFirst N v1 v2 σ = some res) : Fr (Wr_X12_ifFirst) σ res.2 := by
  unfold F_X12_ifFirst at hF
  obtain ⟨q1, eq1, hF⟩ := bind_some' hF
  by_cases c2 : q1 = 0
  · have hF := (if_pos c2).symm.trans hF
    obtain rfl := Option.some.inj hF
    exact (Fr_up Fr.rf (show Wr_X12_ifFirst _ _ from (Or.inl (by omega))))
  · have hF := (if_neg c2).symm.trans hF
    obtain ⟨q3, eq3, hF⟩ := bind_some' hF
    obtain ⟨q4, eq4, hF⟩ := bind_some' hF
    by_cases c5 : q4 = 0
    · have hF := (if_pos c5).symm.trans hF
      obtain rfl := Option.some.inj hF
      exact (Fr_up Fr.rf (show Wr_X12_ifFirst _ _ from (Or.inl (by omega))))
    · have hF := (if_neg c5).symm.trans hF
      exact Fr_tr (Fr_up Fr.rf (show Wr_X12_ifFirst _ _ from (Or.inl (by omega)))) (loopK_ind (res := res) (P := fun (q : Int) => Fr (Wr_X12_ifFirst) (upI σ 94 2 0) res.2) (fun nx q hn hF => fr_X12_ifFirst_B30 hn hF) N 0 hF)
def Wr_X12_dearest (a : Nat) (j : Int) : Prop := (a = 94 ∧ j = 2) ∨ (a = 94 ∧ j = 30) ∨ (a = 94 ∧ j = 37) ∨ ((102 ≤ a ∧ a ≤ 110))
theorem fr_X12_dearest_J72 {N : Nat}   {v1 : Int} {σ : Sto} {res : Int × Sto} (hF : F_X12_dearest_J72 N  v1 σ = some res) : Fr (Wr_X12_dearest) σ res.2 := by
  unfold F_X12_dearest_J72 at hF
  by_cases c2 : 0 ≤ v1
  · have hF := (if_pos c2).symm.trans hF
    obtain rfl := Option.some.inj hF
    exact Fr.rf
  · have hF := (if_neg c2).symm.trans hF
    obtain rfl := Option.some.inj hF
    exact Fr.rf
theorem fr_X12_dearest_J66 {N : Nat}  {nx14 : (Int × Int) → Option (Int × Sto)} {v1 : Int} {v2 : Int} {σ : Sto} {res : Int × Sto} (hnx14 : ∀ q, nx14 q = some res → Fr (Wr_X12_dearest) σ res.2) (hF : F_X12_dearest_J66 N nx14 v1 v2 σ = some res) : Fr (Wr_X12_dearest) σ res.2 := by
  unfold F_X12_dearest_J66 at hF
  exact hnx14 _ hF
theorem fr_X12_dearest_J64 {N : Nat}  {nx14 : (Int × Int) → Option (Int × Sto)} {v2 : Int} {σ : Sto} {res : Int × Sto} (hnx14 : ∀ q, nx14 q = some res → Fr (Wr_X12_dearest) σ res.2) (hF : F_X12_dearest_J64 N nx14 v2 σ = some res) : Fr (Wr_X12_dearest) σ res.2 := by
  unfold F_X12_dearest_J64 at hF
  exact fr_X12_dearest_J66 hnx14 hF
theorem fr_X12_dearest_B14 {N : Nat}  {nx14 : (Int × Int) → Option (Int × Sto)} {v1 : Int} {v2 : Int} {σ : Sto} {res : Int × Sto} (hnx14 : ∀ q, nx14 q = some res → Fr (Wr_X12_dearest) σ res.2) (hF : F_X12_dearest_B14 N nx14 v1 v2 σ = some res) : Fr (Wr_X12_dearest) σ res.2 := by
  unfold F_X12_dearest_B14 at hF
  by_cases c3 : 144 ≤ v2
  · have hF := (if_pos c3).symm.trans hF
    exact fr_X12_dearest_J72  hF
  · have hF := (if_neg c3).symm.trans hF
    obtain ⟨b4, hF⟩ := inb_some hF
    by_cases c5 : (σ.1 107 v2) = 0
    · have hF := (if_pos c5).symm.trans hF
      exact fr_X12_dearest_J66 hnx14 hF
    · have hF := (if_neg c5).symm.trans hF
      by_cases c6 : v1 < 0
      · have hF := (if_pos c6).symm.trans hF
        exact fr_X12_dearest_J64 hnx14 hF
      · have hF := (if_neg c6).symm.trans hF
        obtain ⟨q7, eq7, hF⟩ := bind_some' hF
        obtain ⟨q8, eq8, hF⟩ := bind_some' hF
        by_cases c9 : q7 ≤ q8
        · have hF := (if_pos c9).symm.trans hF
          exact fr_X12_dearest_J66 hnx14 hF
        · have hF := (if_neg c9).symm.trans hF
          exact fr_X12_dearest_J64 hnx14 hF
theorem fr_X12_dearest {N : Nat}  {σ : Sto} {res : Int × Sto} (hF : F_X12_dearest N  σ = some res) : Fr (Wr_X12_dearest) σ res.2 := by
  unfold F_X12_dearest at hF
  obtain ⟨q1, eq1, hF⟩ := bind_some' hF
  exact Fr_tr (Fr_tr (Fr_up Fr.rf (show Wr_X12_dearest _ _ from (Or.inl (by omega)))) (Fr_mono (fr_X12_solves (res := q1) eq1) (fun a j h => by
      unfold Wr_X12_solves at h
      unfold Wr_X12_dearest
      rcases h with h | h | h
      · exact (Or.inr (Or.inl (by omega)))
      · exact (Or.inr (Or.inr (Or.inl (by omega))))
      · exact (Or.inr (Or.inr (Or.inr (by omega))))))) (loopK_ind (res := res) (P := fun (q : Int × Int) => Fr (Wr_X12_dearest) q1.2 res.2) (fun nx q hn hF => fr_X12_dearest_B14 hn hF) N ((-1), 0) hF)
def Wr_X12_draw (a : Nat) (j : Int) : Prop := (a = 94 ∧ j = 47)
theorem fr_X12_draw {N : Nat} {v1 : Int} {σ : Sto} {res : Int × Sto} (hF : F_X12_draw N v1 σ = some res) : Fr (Wr_X12_draw) σ res.2 := by
  unfold F_X12_draw at hF
  obtain ⟨z1, hF⟩ := grd_some hF
  obtain rfl := Option.some.inj hF
  exact (Fr_uf Fr.rf (show Wr_X12_draw _ _ from (by unfold Wr_X12_draw; omega)))
def Wr_X12_chance (a : Nat) (j : Int) : Prop := (a = 94 ∧ j = 2) ∨ (a = 94 ∧ j = 24) ∨ (a = 94 ∧ j = 30) ∨ (a = 94 ∧ j = 37) ∨ (a = 94 ∧ j = 47) ∨ ((101 ≤ a ∧ a ≤ 110))
theorem fr_X12_chance_J212 {N : Nat}   {t0 : Int} {σ : Sto} {res : Int × Sto} (hF : F_X12_chance_J212 N  t0 σ = some res) : Fr (Wr_X12_chance) σ res.2 := by
  unfold F_X12_chance_J212 at hF
  obtain rfl := Option.some.inj hF
  exact (Fr_up Fr.rf (show Wr_X12_chance _ _ from (Or.inr (Or.inl (by omega)))))
theorem fr_X12_chance_J189 {N : Nat}   {v3 : Int} {v4 : Int} {v5 : Int} {σ : Sto} {res : Int × Sto} (hF : F_X12_chance_J189 N  v3 v4 v5 σ = some res) : Fr (Wr_X12_chance) σ res.2 := by
  unfold F_X12_chance_J189 at hF
  by_cases c10 : v3 = 0
  · have hF := (if_pos c10).symm.trans hF
    exact fr_X12_chance_J212  hF
  · have hF := (if_neg c10).symm.trans hF
    by_cases c11 : v3 = 1
    · have hF := (if_pos c11).symm.trans hF
      exact fr_X12_chance_J212  hF
    · have hF := (if_neg c11).symm.trans hF
      obtain ⟨q12, eq12, hF⟩ := bind_some' hF
      exact Fr_tr (Fr_tr Fr.rf (Fr_mono (fr_X12_solves (res := q12) eq12) (fun a j h => by
      unfold Wr_X12_solves at h
      unfold Wr_X12_chance
      rcases h with h | h | h
      · exact (Or.inr (Or.inr (Or.inl (by omega))))
      · exact (Or.inr (Or.inr (Or.inr (Or.inl (by omega)))))
      · exact (Or.inr (Or.inr (Or.inr (Or.inr (Or.inr (by omega))))))))) (fr_X12_chance_J212  hF)
theorem fr_X12_chance_J183 {N : Nat}  {nx89 : (Int × Int × Int × Sto) → Option (Int × Sto)} {v2 : Int} {v3 : Int} {v4 : Int} {v5 : Int} {v6 : Int} {σ : Sto} {res : Int × Sto} (hnx89 : ∀ q, nx89 q = some res → Fr (Wr_X12_chance) q.2.2.2 res.2) (hF : F_X12_chance_J183 N nx89 v2 v3 v4 v5 v6 σ = some res) : Fr (Wr_X12_chance) σ res.2 := by
  unfold F_X12_chance_J183 at hF
  exact Fr_tr Fr.rf (hnx89 (v4, v5, (ja v6 1), σ) hF)
theorem fr_X12_chance_B89 {N : Nat}  {nx89 : (Int × Int × Int × Sto) → Option (Int × Sto)} {v2 : Int} {v3 : Int} {v4 : Int} {v5 : Int} {v6 : Int} {σ : Sto} {res : Int × Sto} (hnx89 : ∀ q, nx89 q = some res → Fr (Wr_X12_chance) q.2.2.2 res.2) (hF : F_X12_chance_B89 N nx89 v2 v3 v4 v5 v6 σ = some res) : Fr (Wr_X12_chance) σ res.2 := by
  unfold F_X12_chance_B89 at hF
  by_cases c13 : v2 ≤ v6
  · have hF := (if_pos c13).symm.trans hF
    exact fr_X12_chance_J189  hF
  · have hF := (if_neg c13).symm.trans hF
    obtain ⟨q14, eq14, hF⟩ := bind_some' hF
    obtain ⟨q15, eq15, hF⟩ := bind_some' hF
    obtain ⟨q16, eq16, hF⟩ := bind_some' hF
    obtain ⟨q17, eq17, hF⟩ := bind_some' hF
    by_cases c18 : q17 = 0
    · have hF := (if_pos c18).symm.trans hF
      exact Fr_tr (Fr_tr (Fr_tr (Fr_tr Fr.rf (Fr_mono (fr_X12_draw (res := q14) eq14) (fun a j h => by have h : Wr_X12_draw a j := h; unfold Wr_X12_draw at h; unfold Wr_X12_chance; (exact (Or.inr (Or.inr (Or.inr (Or.inr (Or.inl (by omega)))))))))) (Fr_mono (fr_X12_draw (res := q15) eq15) (fun a j h => by have h : Wr_X12_draw a j := h; unfold Wr_X12_draw at h; unfold Wr_X12_chance; (exact (Or.inr (Or.inr (Or.inr (Or.inr (Or.inl (by omega)))))))))) (Fr_mono (fr_X12_draw (res := q16) eq16) (fun a j h => by have h : Wr_X12_draw a j := h; unfold Wr_X12_draw at h; unfold Wr_X12_chance; (exact (Or.inr (Or.inr (Or.inr (Or.inr (Or.inl (by omega)))))))))) (fr_X12_chance_J183 hnx89 hF)
    · have hF := (if_neg c18).symm.trans hF
      obtain ⟨q19, eq19, hF⟩ := bind_some' hF
      by_cases c20 : q19 = 30
      · have hF := (if_pos c20).symm.trans hF
        exact Fr_tr (Fr_tr (Fr_tr (Fr_tr Fr.rf (Fr_mono (fr_X12_draw (res := q14) eq14) (fun a j h => by have h : Wr_X12_draw a j := h; unfold Wr_X12_draw at h; unfold Wr_X12_chance; (exact (Or.inr (Or.inr (Or.inr (Or.inr (Or.inl (by omega)))))))))) (Fr_mono (fr_X12_draw (res := q15) eq15) (fun a j h => by have h : Wr_X12_draw a j := h; unfold Wr_X12_draw at h; unfold Wr_X12_chance; (exact (Or.inr (Or.inr (Or.inr (Or.inr (Or.inl (by omega)))))))))) (Fr_mono (fr_X12_draw (res := q16) eq16) (fun a j h => by have h : Wr_X12_draw a j := h; unfold Wr_X12_draw at h; unfold Wr_X12_chance; (exact (Or.inr (Or.inr (Or.inr (Or.inr (Or.inl (by omega)))))))))) (fr_X12_chance_J183 hnx89 hF)
      · have hF := (if_neg c20).symm.trans hF
        obtain ⟨q21, eq21, hF⟩ := bind_some' hF
        by_cases c22 : q21 = 0
        · have hF := (if_pos c22).symm.trans hF
          exact Fr_tr (Fr_tr (Fr_tr (Fr_tr Fr.rf (Fr_mono (fr_X12_draw (res := q14) eq14) (fun a j h => by have h : Wr_X12_draw a j := h; unfold Wr_X12_draw at h; unfold Wr_X12_chance; (exact (Or.inr (Or.inr (Or.inr (Or.inr (Or.inl (by omega)))))))))) (Fr_mono (fr_X12_draw (res := q15) eq15) (fun a j h => by have h : Wr_X12_draw a j := h; unfold Wr_X12_draw at h; unfold Wr_X12_chance; (exact (Or.inr (Or.inr (Or.inr (Or.inr (Or.inl (by omega)))))))))) (Fr_mono (fr_X12_draw (res := q16) eq16) (fun a j h => by have h : Wr_X12_draw a j := h; unfold Wr_X12_draw at h; unfold Wr_X12_chance; (exact (Or.inr (Or.inr (Or.inr (Or.inr (Or.inl (by omega)))))))))) (fr_X12_chance_J183 hnx89 hF)
        · have hF := (if_neg c22).symm.trans hF
          obtain ⟨q23, eq23, hF⟩ := bind_some' hF
          exact Fr_tr (Fr_tr (Fr_tr (Fr_tr (Fr_tr Fr.rf (Fr_mono (fr_X12_draw (res := q14) eq14) (fun a j h => by have h : Wr_X12_draw a j := h; unfold Wr_X12_draw at h; unfold Wr_X12_chance; (exact (Or.inr (Or.inr (Or.inr (Or.inr (Or.inl (by omega)))))))))) (Fr_mono (fr_X12_draw (res := q15) eq15) (fun a j h => by have h : Wr_X12_draw a j := h; unfold Wr_X12_draw at h; unfold Wr_X12_chance; (exact (Or.inr (Or.inr (Or.inr (Or.inr (Or.inl (by omega)))))))))) (Fr_mono (fr_X12_draw (res := q16) eq16) (fun a j h => by have h : Wr_X12_draw a j := h; unfold Wr_X12_draw at h; unfold Wr_X12_chance; (exact (Or.inr (Or.inr (Or.inr (Or.inr (Or.inl (by omega)))))))))) (Fr_mono (fr_X12_claims (res := q23) eq23) (fun a j h => by have h : Wr_X12_claims a j := h; unfold Wr_X12_claims at h; unfold Wr_X12_chance; (exact (Or.inr (Or.inr (Or.inr (Or.inr (Or.inr (by omega)))))))))) (fr_X12_chance_J183 hnx89 hF)
theorem fr_X12_chance_J56 {N : Nat}   {v2 : Int} {v3 : Int} {t1 : Int} {σ : Sto} {res : Int × Sto} (hF : F_X12_chance_J56 N  v2 v3 t1 σ = some res) : Fr (Wr_X12_chance) σ res.2 := by
  unfold F_X12_chance_J56 at hF
  obtain ⟨q7, eq7, hF⟩ := bind_some' hF
  obtain ⟨b8, hF⟩ := inb_some hF
  obtain ⟨q9, eq9, hF⟩ := bind_some' hF
  exact Fr_tr (Fr_tr (Fr_up (Fr_tr (Fr_uf Fr.rf (show Wr_X12_chance _ _ from (Or.inr (Or.inr (Or.inr (Or.inr (Or.inl (by omega)))))))) (Fr_mono (fr_X12_copyBank (res := q7) eq7) (fun a j h => by have h : Wr_X12_copyBank a j := h; unfold Wr_X12_copyBank at h; unfold Wr_X12_chance; (exact (Or.inr (Or.inr (Or.inr (Or.inr (Or.inr (by omega)))))))))) (show Wr_X12_chance _ _ from (Or.inr (Or.inl (by omega))))) (Fr_mono (fr_X12_laysStretches (res := q9) eq9) (fun a j h => by
      unfold Wr_X12_laysStretches at h
      unfold Wr_X12_chance
      rcases h with h | h
      · exact (Or.inr (Or.inr (Or.inl (by omega))))
      · exact (Or.inr (Or.inr (Or.inr (Or.inr (Or.inr (by omega))))))))) (loopK_ind (res := res) (P := fun (q : Int × Int × Int × Sto) => Fr (Wr_X12_chance) q.2.2.2 res.2) (fun nx q hn hF => fr_X12_chance_B89 hn hF) N (0, 0, 0, q9) hF)
theorem fr_X12_chance {N : Nat} {v1 : Int} {v2 : Int} {v3 : Int} {σ : Sto} {res : Int × Sto} (hF : F_X12_chance N v1 v2 v3 σ = some res) : Fr (Wr_X12_chance) σ res.2 := by
  unfold F_X12_chance at hF
  by_cases c1 : v1 < (-1)
  · have hF := (if_pos c1).symm.trans hF
    obtain rfl := Option.some.inj hF
    exact (Fr_up Fr.rf (show Wr_X12_chance _ _ from (Or.inl (by omega))))
  · have hF := (if_neg c1).symm.trans hF
    obtain ⟨q2, eq2, hF⟩ := bind_some' hF
    by_cases c3 : q2 = 0
    · have hF := (if_pos c3).symm.trans hF
      obtain rfl := Option.some.inj hF
      exact (Fr_up Fr.rf (show Wr_X12_chance _ _ from (Or.inl (by omega))))
    · have hF := (if_neg c3).symm.trans hF
      obtain ⟨q4, eq4, hF⟩ := bind_some' hF
      by_cases c5 : q4 = 0
      · have hF := (if_pos c5).symm.trans hF
        obtain rfl := Option.some.inj hF
        exact (Fr_up Fr.rf (show Wr_X12_chance _ _ from (Or.inl (by omega))))
      · have hF := (if_neg c5).symm.trans hF
        by_cases c6 : 1 ≤ ((upI σ 94 2 0).1 94 14)
        · have hF := (if_pos c6).symm.trans hF
          by_cases c24 : 0 ≤ v1
          · have hF := (if_pos c24).symm.trans hF
            exact Fr_tr (Fr_up Fr.rf (show Wr_X12_chance _ _ from (Or.inl (by omega)))) (fr_X12_chance_J56  hF)
          · have hF := (if_neg c24).symm.trans hF
            obtain ⟨b25, hF⟩ := inb_some hF
            exact Fr_tr (Fr_up Fr.rf (show Wr_X12_chance _ _ from (Or.inl (by omega)))) (fr_X12_chance_J56  hF)
        · have hF := (if_neg c6).symm.trans hF
          obtain rfl := Option.some.inj hF
          exact (Fr_up Fr.rf (show Wr_X12_chance _ _ from (Or.inl (by omega))))
def Wr_X12_count (a : Nat) (j : Int) : Prop := (a = 94 ∧ j = 2)
theorem fr_X12_count_J149 {N : Nat}  {nx107 : (Int × Int) → Option (Int × Sto)} {v1 : Int} {v3 : Int} {t0 : Int} {t1 : Int} {σ : Sto} {res : Int × Sto} (hnx107 : ∀ q, nx107 q = some res → Fr (Wr_X12_count) σ res.2) (hF : F_X12_count_J149 N nx107 v1 v3 t0 t1 σ = some res) : Fr (Wr_X12_count) σ res.2 := by
  unfold F_X12_count_J149 at hF
  exact hnx107 _ hF
theorem fr_X12_count_J144 {N : Nat}  {nx107 : (Int × Int) → Option (Int × Sto)} {v1 : Int} {v3 : Int} {t0 : Int} {σ : Sto} {res : Int × Sto} (hnx107 : ∀ q, nx107 q = some res → Fr (Wr_X12_count) σ res.2) (hF : F_X12_count_J144 N nx107 v1 v3 t0 σ = some res) : Fr (Wr_X12_count) σ res.2 := by
  unfold F_X12_count_J144 at hF
  exact fr_X12_count_J149 hnx107 hF
theorem fr_X12_count_J148 {N : Nat}  {nx107 : (Int × Int) → Option (Int × Sto)} {v1 : Int} {v3 : Int} {t0 : Int} {σ : Sto} {res : Int × Sto} (hnx107 : ∀ q, nx107 q = some res → Fr (Wr_X12_count) σ res.2) (hF : F_X12_count_J148 N nx107 v1 v3 t0 σ = some res) : Fr (Wr_X12_count) σ res.2 := by
  unfold F_X12_count_J148 at hF
  exact fr_X12_count_J149 hnx107 hF
theorem fr_X12_count_J130 {N : Nat}  {nx107 : (Int × Int) → Option (Int × Sto)} {v1 : Int} {v3 : Int} {t0 : Int} {σ : Sto} {res : Int × Sto} (hnx107 : ∀ q, nx107 q = some res → Fr (Wr_X12_count) σ res.2) (hF : F_X12_count_J130 N nx107 v1 v3 t0 σ = some res) : Fr (Wr_X12_count) σ res.2 := by
  unfold F_X12_count_J130 at hF
  by_cases c2 : v1 = 7
  · have hF := (if_pos c2).symm.trans hF
    obtain ⟨q3, eq3, hF⟩ := bind_some' hF
    by_cases c4 : q3 ≤ 0
    · have hF := (if_pos c4).symm.trans hF
      exact fr_X12_count_J148 hnx107 hF
    · have hF := (if_neg c4).symm.trans hF
      exact fr_X12_count_J144 hnx107 hF
  · have hF := (if_neg c2).symm.trans hF
    exact fr_X12_count_J148 hnx107 hF
theorem fr_X12_count_B107 {N : Nat}  {nx107 : (Int × Int) → Option (Int × Sto)} {v1 : Int} {v2 : Int} {v3 : Int} {σ : Sto} {res : Int × Sto} (hnx107 : ∀ q, nx107 q = some res → Fr (Wr_X12_count) σ res.2) (hF : F_X12_count_B107 N nx107 v1 v2 v3 σ = some res) : Fr (Wr_X12_count) σ res.2 := by
  unfold F_X12_count_B107 at hF
  by_cases c1 : (σ.1 94 14) ≤ v3
  · have hF := (if_pos c1).symm.trans hF
    obtain rfl := Option.some.inj hF
    exact Fr.rf
  · have hF := (if_neg c1).symm.trans hF
    by_cases c5 : v1 = 6
    · have hF := (if_pos c5).symm.trans hF
      obtain ⟨q6, eq6, hF⟩ := bind_some' hF
      by_cases c7 : q6 < 0
      · have hF := (if_pos c7).symm.trans hF
        exact fr_X12_count_J144 hnx107 hF
      · have hF := (if_neg c7).symm.trans hF
        exact fr_X12_count_J130 hnx107 hF
    · have hF := (if_neg c5).symm.trans hF
      exact fr_X12_count_J130 hnx107 hF
theorem fr_X12_count_J105 {N : Nat}   {v1 : Int} {v2 : Int} {σ : Sto} {res : Int × Sto} (hF : F_X12_count_J105 N  v1 v2 σ = some res) : Fr (Wr_X12_count) σ res.2 := by
  unfold F_X12_count_J105 at hF
  exact (loopK_ind (res := res) (P := fun (q : Int × Int) => Fr (Wr_X12_count) σ res.2) (fun nx q hn hF => fr_X12_count_B107 hn hF) N (v2, 0) hF)
theorem fr_X12_count {N : Nat} {v1 : Int} {σ : Sto} {res : Int × Sto} (hF : F_X12_count N v1 σ = some res) : Fr (Wr_X12_count) σ res.2 := by
  unfold F_X12_count at hF
  by_cases c8 : v1 = 0
  · have hF := (if_pos c8).symm.trans hF
    obtain rfl := Option.some.inj hF
    exact (Fr_up Fr.rf (show Wr_X12_count _ _ from (by unfold Wr_X12_count; omega)))
  · have hF := (if_neg c8).symm.trans hF
    by_cases c9 : v1 = 1
    · have hF := (if_pos c9).symm.trans hF
      obtain rfl := Option.some.inj hF
      exact (Fr_up Fr.rf (show Wr_X12_count _ _ from (by unfold Wr_X12_count; omega)))
    · have hF := (if_neg c9).symm.trans hF
      by_cases c10 : v1 = 2
      · have hF := (if_pos c10).symm.trans hF
        obtain ⟨q11, eq11, hF⟩ := bind_some' hF
        obtain rfl := Option.some.inj hF
        exact (Fr_up Fr.rf (show Wr_X12_count _ _ from (by unfold Wr_X12_count; omega)))
      · have hF := (if_neg c10).symm.trans hF
        by_cases c12 : v1 = 3
        · have hF := (if_pos c12).symm.trans hF
          obtain ⟨q13, eq13, hF⟩ := bind_some' hF
          obtain rfl := Option.some.inj hF
          exact (Fr_up Fr.rf (show Wr_X12_count _ _ from (by unfold Wr_X12_count; omega)))
        · have hF := (if_neg c12).symm.trans hF
          by_cases c14 : v1 = 4
          · have hF := (if_pos c14).symm.trans hF
            obtain ⟨b15, hF⟩ := inb_some hF
            obtain rfl := Option.some.inj hF
            exact (Fr_up Fr.rf (show Wr_X12_count _ _ from (by unfold Wr_X12_count; omega)))
          · have hF := (if_neg c14).symm.trans hF
            by_cases c16 : v1 = 5
            · have hF := (if_pos c16).symm.trans hF
              obtain ⟨b17, hF⟩ := inb_some hF
              obtain rfl := Option.some.inj hF
              exact (Fr_up Fr.rf (show Wr_X12_count _ _ from (by unfold Wr_X12_count; omega)))
            · have hF := (if_neg c16).symm.trans hF
              by_cases c18 : v1 = 6
              · have hF := (if_pos c18).symm.trans hF
                exact Fr_tr (Fr_up Fr.rf (show Wr_X12_count _ _ from (by unfold Wr_X12_count; omega))) (fr_X12_count_J105  hF)
              · have hF := (if_neg c18).symm.trans hF
                by_cases c19 : v1 = 7
                · have hF := (if_pos c19).symm.trans hF
                  exact Fr_tr (Fr_up Fr.rf (show Wr_X12_count _ _ from (by unfold Wr_X12_count; omega))) (fr_X12_count_J105  hF)
                · have hF := (if_neg c19).symm.trans hF
                  by_cases c20 : v1 = 8
                  · have hF := (if_pos c20).symm.trans hF
                    obtain rfl := Option.some.inj hF
                    exact (Fr_up Fr.rf (show Wr_X12_count _ _ from (by unfold Wr_X12_count; omega)))
                  · have hF := (if_neg c20).symm.trans hF
                    by_cases c21 : v1 = 9
                    · have hF := (if_pos c21).symm.trans hF
                      obtain rfl := Option.some.inj hF
                      exact (Fr_up Fr.rf (show Wr_X12_count _ _ from (by unfold Wr_X12_count; omega)))
                    · have hF := (if_neg c21).symm.trans hF
                      by_cases c22 : v1 = 10
                      · have hF := (if_pos c22).symm.trans hF
                        obtain ⟨b23, hF⟩ := inb_some hF
                        obtain rfl := Option.some.inj hF
                        exact (Fr_up Fr.rf (show Wr_X12_count _ _ from (by unfold Wr_X12_count; omega)))
                      · have hF := (if_neg c22).symm.trans hF
                        obtain rfl := Option.some.inj hF
                        exact (Fr_up Fr.rf (show Wr_X12_count _ _ from (by unfold Wr_X12_count; omega)))
