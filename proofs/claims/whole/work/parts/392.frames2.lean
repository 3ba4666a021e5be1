def Wr_X11_gateFor (a : Nat) (j : Int) : Prop := (a = 83 ∧ j = 10) ∨ (a = 83 ∧ j = 11) ∨ (a = 83 ∧ j = 12) ∨ (a = 83 ∧ j = 13) ∨ (a = 77 ∧ j = 2) ∨ (a = 73 ∧ j = 3) ∨ (a = 46 ∧ j = 5) ∨ (a = 83 ∧ j = 9) ∨ ((47 ≤ a ∧ a ≤ 50)) ∨ ((78 ≤ a ∧ a ≤ 79)) ∨ ((81 ≤ a ∧ a ≤ 82)) ∨ ((84 ≤ a ∧ a ≤ 92))
theorem fr_X11_gateFor_J69 {N : Nat}   {v2 : Int} {σ : Sto} {res : Int × Sto} (hF : F_X11_gateFor_J69 N  v2 σ = some res) : Fr (Wr_X11_gateFor) σ res.2 := by
  unfold F_X11_gateFor_J69 at hF
  by_cases c3 : v2 = 0
  · have hF := (if_pos c3).symm.trans hF
    obtain rfl := Option.some.inj hF
    exact Fr.rf
  · have hF := (if_neg c3).symm.trans hF
    obtain rfl := Option.some.inj hF
    exact Fr.rf
theorem fr_X11_gateFor_J63 {N : Nat}  {nx21 : (Int × Int × Int × Sto) → Option (Int × Sto)} {v1 : Int} {v2 : Int} {v3 : Int} {v4 : Int} {σ : Sto} {res : Int × Sto} (hnx21 : ∀ q, nx21 q = some res → Fr (Wr_X11_gateFor) q.2.2.2 res.2) (hF : F_X11_gateFor_J63 N nx21 v1 v2 v3 v4 σ = some res) : Fr (Wr_X11_gateFor) σ res.2 := by
  unfold F_X11_gateFor_J63 at hF
  exact Fr_tr Fr.rf (hnx21 (v2, v3, (ja v4 1), σ) hF)
theorem fr_X11_gateFor_B21 {N : Nat}  {nx21 : (Int × Int × Int × Sto) → Option (Int × Sto)} {v1 : Int} {v2 : Int} {v3 : Int} {v4 : Int} {σ : Sto} {res : Int × Sto} (hnx21 : ∀ q, nx21 q = some res → Fr (Wr_X11_gateFor) q.2.2.2 res.2) (hF : F_X11_gateFor_B21 N nx21 v1 v2 v3 v4 σ = some res) : Fr (Wr_X11_gateFor) σ res.2 := by
  unfold F_X11_gateFor_B21 at hF
  by_cases c4 : 100 ≤ v4
  · have hF := (if_pos c4).symm.trans hF
    exact fr_X11_gateFor_J69  hF
  · have hF := (if_neg c4).symm.trans hF
    by_cases c5 : v3 ≤ v2
    · have hF := (if_pos c5).symm.trans hF
      exact fr_X11_gateFor_J69  hF
    · have hF := (if_neg c5).symm.trans hF
      obtain ⟨q6, eq6, hF⟩ := bind_some' hF
      by_cases c7 : q6.1 < v1
      · have hF := (if_pos c7).symm.trans hF
        exact Fr_tr (Fr_tr Fr.rf (Fr_mono (fr_X11_reliefByGate (res := q6) eq6) (fun a j h => by
      unfold Wr_X11_reliefByGate at h
      unfold Wr_X11_gateFor
      rcases h with h | h | h | h | h | h | h | h | h | h | h | h
      · exact (Or.inl (by omega))
      · exact (Or.inr (Or.inl (by omega)))
      · exact (Or.inr (Or.inr (Or.inl (by omega))))
      · exact (Or.inr (Or.inr (Or.inr (Or.inl (by omega)))))
      · exact (Or.inr (Or.inr (Or.inr (Or.inr (Or.inl (by omega))))))
      · exact (Or.inr (Or.inr (Or.inr (Or.inr (Or.inr (Or.inl (by omega)))))))
      · exact (Or.inr (Or.inr (Or.inr (Or.inr (Or.inr (Or.inr (Or.inl (by omega))))))))
      · exact (Or.inr (Or.inr (Or.inr (Or.inr (Or.inr (Or.inr (Or.inr (Or.inl (by omega)))))))))
      · exact (Or.inr (Or.inr (Or.inr (Or.inr (Or.inr (Or.inr (Or.inr (Or.inr (Or.inl (by omega))))))))))
      · exact (Or.inr (Or.inr (Or.inr (Or.inr (Or.inr (Or.inr (Or.inr (Or.inr (Or.inr (Or.inl (by omega)))))))))))
      · exact (Or.inr (Or.inr (Or.inr (Or.inr (Or.inr (Or.inr (Or.inr (Or.inr (Or.inr (Or.inr (Or.inl (by omega))))))))))))
      · exact (Or.inr (Or.inr (Or.inr (Or.inr (Or.inr (Or.inr (Or.inr (Or.inr (Or.inr (Or.inr (Or.inr (by omega))))))))))))))) (fr_X11_gateFor_J63 hnx21 hF)
      · have hF := (if_neg c7).symm.trans hF
        exact Fr_tr (Fr_tr Fr.rf (Fr_mono (fr_X11_reliefByGate (res := q6) eq6) (fun a j h => by
      unfold Wr_X11_reliefByGate at h
      unfold Wr_X11_gateFor
      rcases h with h | h | h | h | h | h | h | h | h | h | h | h
      · exact (Or.inl (by omega))
      · exact (Or.inr (Or.inl (by omega)))
      · exact (Or.inr (Or.inr (Or.inl (by omega))))
      · exact (Or.inr (Or.inr (Or.inr (Or.inl (by omega)))))
      · exact (Or.inr (Or.inr (Or.inr (Or.inr (Or.inl (by omega))))))
      · exact (Or.inr (Or.inr (Or.inr (Or.inr (Or.inr (Or.inl (by omega)))))))
      · exact (Or.inr (Or.inr (Or.inr (Or.inr (Or.inr (Or.inr (Or.inl (by omega))))))))
      · exact (Or.inr (Or.inr (Or.inr (Or.inr (Or.inr (Or.inr (Or.inr (Or.inl (by omega)))))))))
      · exact (Or.inr (Or.inr (Or.inr (Or.inr (Or.inr (Or.inr (Or.inr (Or.inr (Or.inl (by omega))))))))))
      · exact (Or.inr (Or.inr (Or.inr (Or.inr (Or.inr (Or.inr (Or.inr (Or.inr (Or.inr (Or.inl (by omega)))))))))))
      · exact (Or.inr (Or.inr (Or.inr (Or.inr (Or.inr (Or.inr (Or.inr (Or.inr (Or.inr (Or.inr (Or.inl (by omega))))))))))))
      · exact (Or.inr (Or.inr (Or.inr (Or.inr (Or.inr (Or.inr (Or.inr (Or.inr (Or.inr (Or.inr (Or.inr (by omega))))))))))))))) (fr_X11_gateFor_J63 hnx21 hF)
theorem fr_X11_gateFor {N : Nat} {v1 : Int} {σ : Sto} {res : Int × Sto} (hF : F_X11_gateFor N v1 σ = some res) : Fr (Wr_X11_gateFor) σ res.2 := by
  unfold F_X11_gateFor at hF
  by_cases c1 : v1 < 0
  · have hF := (if_pos c1).symm.trans hF
    obtain rfl := Option.some.inj hF
    exact Fr.rf
  · have hF := (if_neg c1).symm.trans hF
    by_cases c2 : v1 ≤ 9999999
    · have hF := (if_pos c2).symm.trans hF
      exact (loopK_ind (res := res) (P := fun (q : Int × Int × Int × Sto) => Fr (Wr_X11_gateFor) q.2.2.2 res.2) (fun nx q hn hF => fr_X11_gateFor_B21 hn hF) N (0, 100, 0, σ) hF)
    · have hF := (if_neg c2).symm.trans hF
      obtain rfl := Option.some.inj hF
      exact Fr.rf
def Wr_X11_ifFirst (a : Nat) (j : Int) : Prop := (a = 83 ∧ j = 10) ∨ (a = 83 ∧ j = 11) ∨ (a = 83 ∧ j = 12) ∨ (a = 83 ∧ j = 13) ∨ (a = 0 ∧ j = 16) ∨ (a = 52 ∧ j = 2) ∨ (a = 73 ∧ j = 3) ∨ (a = 46 ∧ j = 5) ∨ (a = 83 ∧ j = 9) ∨ ((47 ≤ a ∧ a ≤ 50)) ∨ ((53 ≤ a ∧ a ≤ 54)) ∨ ((56 ≤ a ∧ a ≤ 57)) ∨ ((81 ≤ a ∧ a ≤ 82)) ∨ ((84 ≤ a ∧ a ≤ 93))
theorem fr_X11_ifFirst {N : Nat} {v1 : Int} {v2 : Int} {σ : Sto} {res : Int × Sto} (hF : F_X11_ifFirst N v1 v2 σ = some res) : Fr (Wr_X11_ifFirst) σ res.2 := by
  unfold F_X11_ifFirst at hF
  obtain ⟨b1, eb1, kb1, hF⟩ := asB_some hF
  obtain ⟨q2, eq2, hF⟩ := bind_some' hF
  by_cases c3 : q2 = 0
  · have hF := (if_pos c3).symm.trans hF
    obtain rfl := Option.some.inj hF
    exact Fr.rf
  · have hF := (if_neg c3).symm.trans hF
    by_cases c4 : v2 < 0
    · have hF := (if_pos c4).symm.trans hF
      obtain rfl := Option.some.inj hF
      exact Fr.rf
    · have hF := (if_neg c4).symm.trans hF
      obtain ⟨b5, eb5, kb5, hF⟩ := asB_some hF
      obtain ⟨b6, hF⟩ := inb_some hF
      by_cases c7 : v2 ≤ (σ.1 (b5 + 6) v1)
      · have hF := (if_pos c7).symm.trans hF
        obtain ⟨b8, eb8, kb8, hF⟩ := asB_some hF
        obtain ⟨b9, eb9, kb9, hF⟩ := asB_some hF
        obtain ⟨b10, eb10, kb10, hF⟩ := asB_some hF
        obtain ⟨q11, eq11, hF⟩ := bind_some' hF
        by_cases c12 : q11 = 0
        · have hF := (if_pos c12).symm.trans hF
          obtain ⟨b13, eb13, kb13, hF⟩ := asB_some hF
          obtain ⟨y14, hF⟩ := grd_some hF
          obtain ⟨q15, eq15, hF⟩ := bind_some' hF
          obtain ⟨b16, eb16, kb16, hF⟩ := asB_some hF
          obtain ⟨q17, eq17, hF⟩ := bind_some' hF
          obtain rfl := Option.some.inj hF
          exact (Fr_tr (Fr_tr (Fr_up (Fr_cp Fr.rf (fun j => (show Wr_X11_ifFirst _ _ from (Or.inr (Or.inr (Or.inr (Or.inr (Or.inr (Or.inr (Or.inr (Or.inr (Or.inr (Or.inr (Or.inr (Or.inr (Or.inr (by omega))))))))))))))))) (show Wr_X11_ifFirst _ _ from (Or.inr (Or.inr (Or.inr (Or.inr (Or.inr (Or.inr (Or.inr (Or.inr (Or.inr (Or.inr (Or.inr (Or.inr (Or.inr (by omega)))))))))))))))) (Fr_mono (fr_X11_refreshNet (res := q15) eq15) (fun a j h => by
      unfold Wr_X11_refreshNet at h
      unfold Wr_X11_ifFirst
      rcases h with h | h | h | h | h | h
      · exact (Or.inr (Or.inr (Or.inr (Or.inr (Or.inl (by omega))))))
      · exact (Or.inr (Or.inr (Or.inr (Or.inr (Or.inr (Or.inl (by omega)))))))
      · exact (Or.inr (Or.inr (Or.inr (Or.inr (Or.inr (Or.inr (Or.inr (Or.inl (by omega)))))))))
      · exact (Or.inr (Or.inr (Or.inr (Or.inr (Or.inr (Or.inr (Or.inr (Or.inr (Or.inr (Or.inl (by omega)))))))))))
      · exact (Or.inr (Or.inr (Or.inr (Or.inr (Or.inr (Or.inr (Or.inr (Or.inr (Or.inr (Or.inr (Or.inl (by omega))))))))))))
      · exact (Or.inr (Or.inr (Or.inr (Or.inr (Or.inr (Or.inr (Or.inr (Or.inr (Or.inr (Or.inr (Or.inr (Or.inl (by omega)))))))))))))))) (Fr_mono (fr_X11_reliefWithoutClaims (res := q17) eq17) (fun a j h => by
      unfold Wr_X11_reliefWithoutClaims at h
      unfold Wr_X11_ifFirst
      rcases h with h | h | h | h | h | h | h | h
      · exact (Or.inl (by omega))
      · exact (Or.inr (Or.inl (by omega)))
      · exact (Or.inr (Or.inr (Or.inl (by omega))))
      · exact (Or.inr (Or.inr (Or.inr (Or.inl (by omega)))))
      · exact (Or.inr (Or.inr (Or.inr (Or.inr (Or.inr (Or.inr (Or.inl (by omega))))))))
      · exact (Or.inr (Or.inr (Or.inr (Or.inr (Or.inr (Or.inr (Or.inr (Or.inr (Or.inl (by omega))))))))))
      · exact (Or.inr (Or.inr (Or.inr (Or.inr (Or.inr (Or.inr (Or.inr (Or.inr (Or.inr (Or.inr (Or.inr (Or.inr (Or.inl (by omega))))))))))))))
      · exact (Or.inr (Or.inr (Or.inr (Or.inr (Or.inr (Or.inr (Or.inr (Or.inr (Or.inr (Or.inr (Or.inr (Or.inr (Or.inr (by omega)))))))))))))))))
        · have hF := (if_neg c12).symm.trans hF
          obtain rfl := Option.some.inj hF
          exact Fr.rf
      · have hF := (if_neg c7).symm.trans hF
        obtain rfl := Option.some.inj hF
        exact Fr.rf
def Wr_X11_chance (a : Nat) (j : Int) : Prop := (a = 83 ∧ j = 10) ∨ (a = 83 ∧ j = 11) ∨ (a = 83 ∧ j = 12) ∨ (a = 83 ∧ j = 13) ∨ (a = 0 ∧ j = 16) ∨ (a = 52 ∧ j = 2) ∨ (a = 73 ∧ j = 3) ∨ (a = 46 ∧ j = 5) ∨ (a = 83 ∧ j = 9) ∨ ((47 ≤ a ∧ a ≤ 50)) ∨ ((53 ≤ a ∧ a ≤ 54)) ∨ ((56 ≤ a ∧ a ≤ 57)) ∨ ((74 ≤ a ∧ a ≤ 76)) ∨ ((84 ≤ a ∧ a ≤ 92))
theorem fr_X11_chance_J170 {N : Nat}   {v3 : Int} {v5 : Int} {σ : Sto} {res : Int × Sto} (hF : F_X11_chance_J170 N  v3 v5 σ = some res) : Fr (Wr_X11_chance) σ res.2 := by
  unfold F_X11_chance_J170 at hF
  by_cases c8 : 2 ≤ v3
  · have hF := (if_pos c8).symm.trans hF
    obtain ⟨q9, eq9, hF⟩ := bind_some' hF
    obtain ⟨b10, eb10, kb10, hF⟩ := asB_some hF
    obtain ⟨q11, eq11, hF⟩ := bind_some' hF
    obtain ⟨q12, eq12, hF⟩ := bind_some' hF
    obtain rfl := Option.some.inj hF
    exact (Fr_tr (Fr_tr (Fr_tr Fr.rf (Fr_mono (fr_X11_refreshNet (res := q9) eq9) (fun a j h => by
      unfold Wr_X11_refreshNet at h
      unfold Wr_X11_chance
      rcases h with h | h | h | h | h | h
      · exact (Or.inr (Or.inr (Or.inr (Or.inr (Or.inl (by omega))))))
      · exact (Or.inr (Or.inr (Or.inr (Or.inr (Or.inr (Or.inl (by omega)))))))
      · exact (Or.inr (Or.inr (Or.inr (Or.inr (Or.inr (Or.inr (Or.inr (Or.inl (by omega)))))))))
      · exact (Or.inr (Or.inr (Or.inr (Or.inr (Or.inr (Or.inr (Or.inr (Or.inr (Or.inr (Or.inl (by omega)))))))))))
      · exact (Or.inr (Or.inr (Or.inr (Or.inr (Or.inr (Or.inr (Or.inr (Or.inr (Or.inr (Or.inr (Or.inl (by omega))))))))))))
      · exact (Or.inr (Or.inr (Or.inr (Or.inr (Or.inr (Or.inr (Or.inr (Or.inr (Or.inr (Or.inr (Or.inr (Or.inl (by omega)))))))))))))))) (Fr_mono (fr_X1_load (res := q11) eq11) (fun a j h => by
      unfold Wr_X1_load at h
      unfold Wr_X11_chance
      rcases h with h | h
      · exact (Or.inr (Or.inl (by omega)))
      · exact (Or.inr (Or.inr (Or.inr (Or.inr (Or.inr (Or.inr (Or.inr (Or.inr (Or.inr (Or.inr (Or.inr (Or.inr (Or.inr (by omega))))))))))))))))) (Fr_mono (fr_X1_run (res := q12) eq12) (fun a j h => by
      unfold Wr_X1_run at h
      unfold Wr_X11_chance
      rcases h with h | h | h | h | h | h
      · exact (Or.inl (by omega))
      · exact (Or.inr (Or.inr (Or.inl (by omega))))
      · exact (Or.inr (Or.inr (Or.inr (Or.inl (by omega)))))
      · exact (Or.inr (Or.inr (Or.inr (Or.inr (Or.inr (Or.inr (Or.inr (Or.inr (Or.inl (by omega))))))))))
      · exact (Or.inr (Or.inr (Or.inr (Or.inr (Or.inr (Or.inr (Or.inr (Or.inr (Or.inr (Or.inr (Or.inr (Or.inr (Or.inr (by omega))))))))))))))
      · exact (Or.inr (Or.inr (Or.inr (Or.inr (Or.inr (Or.inr (Or.inr (Or.inr (Or.inr (Or.inr (Or.inr (Or.inr (Or.inr (by omega)))))))))))))))))
  · have hF := (if_neg c8).symm.trans hF
    by_cases c13 : v3 = 0
    · have hF := (if_pos c13).symm.trans hF
      obtain rfl := Option.some.inj hF
      exact Fr.rf
    · have hF := (if_neg c13).symm.trans hF
      obtain rfl := Option.some.inj hF
      exact Fr.rf
theorem fr_X11_chance_J164 {N : Nat}  {nx73 : (Int × Int × Int × Sto) → Option (Int × Sto)} {v2 : Int} {v3 : Int} {v4 : Int} {v5 : Int} {v6 : Int} {σ : Sto} {res : Int × Sto} (hnx73 : ∀ q, nx73 q = some res → Fr (Wr_X11_chance) q.2.2.2 res.2) (hF : F_X11_chance_J164 N nx73 v2 v3 v4 v5 v6 σ = some res) : Fr (Wr_X11_chance) σ res.2 := by
  unfold F_X11_chance_J164 at hF
  exact Fr_tr Fr.rf (hnx73 (v4, v5, (ja v6 1), σ) hF)
theorem fr_X11_chance_B73 {N : Nat}  {nx73 : (Int × Int × Int × Sto) → Option (Int × Sto)} {v2 : Int} {v3 : Int} {v4 : Int} {v5 : Int} {v6 : Int} {σ : Sto} {res : Int × Sto} (hnx73 : ∀ q, nx73 q = some res → Fr (Wr_X11_chance) q.2.2.2 res.2) (hF : F_X11_chance_B73 N nx73 v2 v3 v4 v5 v6 σ = some res) : Fr (Wr_X11_chance) σ res.2 := by
  unfold F_X11_chance_B73 at hF
  by_cases c14 : v2 ≤ v6
  · have hF := (if_pos c14).symm.trans hF
    exact fr_X11_chance_J170  hF
  · have hF := (if_neg c14).symm.trans hF
    obtain ⟨q15, eq15, hF⟩ := bind_some' hF
    obtain ⟨b16, eb16, kb16, hF⟩ := asB_some hF
    obtain ⟨q17, eq17, hF⟩ := bind_some' hF
    obtain ⟨q18, eq18, hF⟩ := bind_some' hF
    obtain ⟨b19, eb19, kb19, hF⟩ := asB_some hF
    obtain ⟨q20, eq20, hF⟩ := bind_some' hF
    obtain ⟨q21, eq21, hF⟩ := bind_some' hF
    obtain ⟨q22, eq22, hF⟩ := bind_some' hF
    obtain ⟨q23, eq23, hF⟩ := bind_some' hF
    by_cases c24 : q23.1 < 0
    · have hF := (if_pos c24).symm.trans hF
      exact Fr_tr (Fr_tr Fr.rf (Fr_mono (fr_X11_enter (res := q23) eq23) (fun a j h => by
      unfold Wr_X11_enter at h
      unfold Wr_X11_chance
      rcases h with h | h | h | h | h | h | h | h
      · exact (Or.inr (Or.inr (Or.inr (Or.inr (Or.inr (Or.inr (Or.inl (by omega))))))))
      · exact (Or.inr (Or.inr (Or.inr (Or.inr (Or.inr (Or.inr (Or.inr (Or.inr (Or.inr (Or.inr (Or.inr (Or.inr (Or.inl (by omega))))))))))))))
      · exact (Or.inr (Or.inr (Or.inr (Or.inr (Or.inl (by omega))))))
      · exact (Or.inr (Or.inr (Or.inr (Or.inr (Or.inr (Or.inl (by omega)))))))
      · exact (Or.inr (Or.inr (Or.inr (Or.inr (Or.inr (Or.inr (Or.inr (Or.inl (by omega)))))))))
      · exact (Or.inr (Or.inr (Or.inr (Or.inr (Or.inr (Or.inr (Or.inr (Or.inr (Or.inr (Or.inl (by omega)))))))))))
      · exact (Or.inr (Or.inr (Or.inr (Or.inr (Or.inr (Or.inr (Or.inr (Or.inr (Or.inr (Or.inr (Or.inl (by omega))))))))))))
      · exact (Or.inr (Or.inr (Or.inr (Or.inr (Or.inr (Or.inr (Or.inr (Or.inr (Or.inr (Or.inr (Or.inr (Or.inl (by omega)))))))))))))))) (fr_X11_chance_J164 hnx73 hF)
    · have hF := (if_neg c24).symm.trans hF
      exact Fr_tr (Fr_tr Fr.rf (Fr_mono (fr_X11_enter (res := q23) eq23) (fun a j h => by
      unfold Wr_X11_enter at h
      unfold Wr_X11_chance
      rcases h with h | h | h | h | h | h | h | h
      · exact (Or.inr (Or.inr (Or.inr (Or.inr (Or.inr (Or.inr (Or.inl (by omega))))))))
      · exact (Or.inr (Or.inr (Or.inr (Or.inr (Or.inr (Or.inr (Or.inr (Or.inr (Or.inr (Or.inr (Or.inr (Or.inr (Or.inl (by omega))))))))))))))
      · exact (Or.inr (Or.inr (Or.inr (Or.inr (Or.inl (by omega))))))
      · exact (Or.inr (Or.inr (Or.inr (Or.inr (Or.inr (Or.inl (by omega)))))))
      · exact (Or.inr (Or.inr (Or.inr (Or.inr (Or.inr (Or.inr (Or.inr (Or.inl (by omega)))))))))
      · exact (Or.inr (Or.inr (Or.inr (Or.inr (Or.inr (Or.inr (Or.inr (Or.inr (Or.inr (Or.inl (by omega)))))))))))
      · exact (Or.inr (Or.inr (Or.inr (Or.inr (Or.inr (Or.inr (Or.inr (Or.inr (Or.inr (Or.inr (Or.inl (by omega))))))))))))
      · exact (Or.inr (Or.inr (Or.inr (Or.inr (Or.inr (Or.inr (Or.inr (Or.inr (Or.inr (Or.inr (Or.inr (Or.inl (by omega)))))))))))))))) (fr_X11_chance_J164 hnx73 hF)
theorem fr_X11_chance_J65 {N : Nat}   {v2 : Int} {v3 : Int} {t0 : Int} {σ : Sto} {res : Int × Sto} (hF : F_X11_chance_J65 N  v2 v3 t0 σ = some res) : Fr (Wr_X11_chance) σ res.2 := by
  unfold F_X11_chance_J65 at hF
  exact (loopK_ind (res := res) (P := fun (q : Int × Int × Int × Sto) => Fr (Wr_X11_chance) q.2.2.2 res.2) (fun nx q hn hF => fr_X11_chance_B73 hn hF) N (t0, 0, 0, σ) hF)
theorem fr_X11_chance {N : Nat} {v1 : Int} {v2 : Int} {v3 : Int} {σ : Sto} {res : Int × Sto} (hF : F_X11_chance N v1 v2 v3 σ = some res) : Fr (Wr_X11_chance) σ res.2 := by
  unfold F_X11_chance at hF
  by_cases c1 : v1 < (-1)
  · have hF := (if_pos c1).symm.trans hF
    obtain rfl := Option.some.inj hF
    exact Fr.rf
  · have hF := (if_neg c1).symm.trans hF
    by_cases c2 : v2 < 1
    · have hF := (if_pos c2).symm.trans hF
      obtain rfl := Option.some.inj hF
      exact Fr.rf
    · have hF := (if_neg c2).symm.trans hF
      by_cases c3 : 60 < v2
      · have hF := (if_pos c3).symm.trans hF
        obtain rfl := Option.some.inj hF
        exact Fr.rf
      · have hF := (if_neg c3).symm.trans hF
        by_cases c4 : v3 < 0
        · have hF := (if_pos c4).symm.trans hF
          obtain rfl := Option.some.inj hF
          exact Fr.rf
        · have hF := (if_neg c4).symm.trans hF
          by_cases c5 : 2 < v3
          · have hF := (if_pos c5).symm.trans hF
            obtain rfl := Option.some.inj hF
            exact Fr.rf
          · have hF := (if_neg c5).symm.trans hF
            obtain ⟨b6, eb6, kb6, hF⟩ := asB_some hF
            by_cases c7 : 1 ≤ (σ.1 b6 9)
            · have hF := (if_pos c7).symm.trans hF
              obtain ⟨q25, eq25, hF⟩ := bind_some' hF
              by_cases c26 : v1 = (-1)
              · have hF := (if_pos c26).symm.trans hF
                obtain ⟨b27, eb27, kb27, hF⟩ := asB_some hF
                exact Fr_tr (Fr_tr Fr.rf (Fr_mono (fr_X5_copy (res := q25) eq25) (fun a j h => by
      unfold Wr_X5_copy at h
      unfold Wr_X11_chance
      rcases h with h | h
      · exact (Or.inr (Or.inr (Or.inr (Or.inr (Or.inr (Or.inr (Or.inl (by omega))))))))
      · exact (Or.inr (Or.inr (Or.inr (Or.inr (Or.inr (Or.inr (Or.inr (Or.inr (Or.inr (Or.inr (Or.inr (Or.inr (Or.inl (by omega))))))))))))))))) (fr_X11_chance_J65  hF)
              · have hF := (if_neg c26).symm.trans hF
                exact Fr_tr (Fr_tr Fr.rf (Fr_mono (fr_X5_copy (res := q25) eq25) (fun a j h => by
      unfold Wr_X5_copy at h
      unfold Wr_X11_chance
      rcases h with h | h
      · exact (Or.inr (Or.inr (Or.inr (Or.inr (Or.inr (Or.inr (Or.inl (by omega))))))))
      · exact (Or.inr (Or.inr (Or.inr (Or.inr (Or.inr (Or.inr (Or.inr (Or.inr (Or.inr (Or.inr (Or.inr (Or.inr (Or.inl (by omega))))))))))))))))) (fr_X11_chance_J65  hF)
            · have hF := (if_neg c7).symm.trans hF
              obtain rfl := Option.some.inj hF
              exact Fr.rf
def Wr_X11_undo (a : Nat) (j : Int) : Prop := (a = 33 ∧ j = 1) ∨ (a = 0 ∧ j = 16) ∨ (a = 0 ∧ j = 17) ∨ (a = 29 ∧ j = 3) ∨ (a = 11 ∧ j = 4) ∨ (a = 24 ∧ j = 4) ∨ (a = 10) ∨ (a = 23) ∨ ((30 ≤ a ∧ a ≤ 32))
theorem fr_X11_undo_J144 {N : Nat}    {σ : Sto} {res : Int × Sto} (hF : F_X11_undo_J144 N   σ = some res) : Fr (Wr_X11_undo) σ res.2 := by
  unfold F_X11_undo_J144 at hF
  obtain ⟨q2, eq2, hF⟩ := bind_some' hF
  obtain rfl := Option.some.inj hF
  exact (Fr_tr Fr.rf (Fr_mono (fr_X11_forgetNet (res := q2) eq2) (fun a j h => by
      unfold Wr_X11_forgetNet at h
      unfold Wr_X11_undo
      rcases h with h | h
      · exact (Or.inr (Or.inl (by omega)))
      · exact (Or.inr (Or.inr (Or.inl (by omega)))))))
theorem fr_X11_undo {N : Nat}  {σ : Sto} {res : Int × Sto} (hF : F_X11_undo N  σ = some res) : Fr (Wr_X11_undo) σ res.2 := by
  unfold F_X11_undo at hF
  by_cases c1 : (σ.1 33 1) = 0
  · have hF := (if_pos c1).symm.trans hF
    obtain rfl := Option.some.inj hF
    exact Fr.rf
  · have hF := (if_neg c1).symm.trans hF
    obtain ⟨q3, eq3, hF⟩ := bind_some' hF
    obtain ⟨b4, hF⟩ := inb_some hF
    by_cases c5 : (q3.2.1 34 q3.1) = 0
    · have hF := (if_pos c5).symm.trans hF
      obtain ⟨b6, hF⟩ := inb_some hF
      exact Fr_tr (Fr_up (Fr_tr Fr.rf (Fr_mono (fr_X2_pop (res := q3) eq3) (fun a j h => by have h : Wr_X2_pop a j := h; unfold Wr_X2_pop at h; unfold Wr_X11_undo; (exact (Or.inl (by omega)))))) (show Wr_X11_undo _ _ from (Or.inr (Or.inr (Or.inr (Or.inl (by omega))))))) (fr_X11_undo_J144  hF)
    · have hF := (if_neg c5).symm.trans hF
      by_cases c7 : (q3.2.1 34 q3.1) = 1
      · have hF := (if_pos c7).symm.trans hF
        obtain ⟨b8, hF⟩ := inb_some hF
        obtain ⟨b9, hF⟩ := inb_some hF
        obtain ⟨b10, hF⟩ := inb_some hF
        obtain ⟨b11, hF⟩ := inb_some hF
        obtain ⟨q12, eq12, hF⟩ := bind_some' hF
        exact Fr_tr (Fr_tr (Fr_tr Fr.rf (Fr_mono (fr_X2_pop (res := q3) eq3) (fun a j h => by have h : Wr_X2_pop a j := h; unfold Wr_X2_pop at h; unfold Wr_X11_undo; (exact (Or.inl (by omega)))))) (Fr_mono (fr_X5_insert (res := q12) eq12) (fun a j h => by
      unfold Wr_X5_insert at h
      unfold Wr_X11_undo
      rcases h with h | h
      · exact (Or.inr (Or.inr (Or.inr (Or.inl (by omega)))))
      · exact (Or.inr (Or.inr (Or.inr (Or.inr (Or.inr (Or.inr (Or.inr (Or.inr (by omega)))))))))))) (fr_X11_undo_J144  hF)
      · have hF := (if_neg c7).symm.trans hF
        by_cases c13 : (q3.2.1 34 q3.1) = 2
        · have hF := (if_pos c13).symm.trans hF
          obtain ⟨b14, eb14, kb14, hF⟩ := asB_some hF
          obtain ⟨b15, hF⟩ := inb_some hF
          obtain ⟨b16, hF⟩ := inb_some hF
          obtain ⟨b17, hF⟩ := inb_some hF
          exact Fr_tr (Fr_up (Fr_tr Fr.rf (Fr_mono (fr_X2_pop (res := q3) eq3) (fun a j h => by have h : Wr_X2_pop a j := h; unfold Wr_X2_pop at h; unfold Wr_X11_undo; (exact (Or.inl (by omega)))))) (by rcases bookc kb14 with hbk | hbk <;> first | exact (Or.inr (Or.inr (Or.inr (Or.inr (Or.inr (Or.inr (Or.inl (by omega)))))))) | exact (Or.inr (Or.inr (Or.inr (Or.inr (Or.inr (Or.inr (Or.inr (Or.inl (by omega))))))))))) (fr_X11_undo_J144  hF)
        · have hF := (if_neg c13).symm.trans hF
          obtain ⟨b18, eb18, kb18, hF⟩ := asB_some hF
          obtain ⟨q19, eq19, hF⟩ := bind_some' hF
          exact Fr_tr (Fr_tr (Fr_tr Fr.rf (Fr_mono (fr_X2_pop (res := q3) eq3) (fun a j h => by have h : Wr_X2_pop a j := h; unfold Wr_X2_pop at h; unfold Wr_X11_undo; (exact (Or.inl (by omega)))))) (Fr_mono (fr_X7_dropLast (res := q19) eq19) (fun a j h => by have h : Wr_X7_dropLast _ a j := h; unfold Wr_X7_dropLast at h; unfold Wr_X11_undo; (rcases bookc kb18 with hbk | hbk <;> first | exact (Or.inr (Or.inr (Or.inr (Or.inr (Or.inl (by omega)))))) | exact (Or.inr (Or.inr (Or.inr (Or.inr (Or.inr (Or.inl (by omega))))))))))) (fr_X11_undo_J144  hF)
def Wr_X11_keep (a : Nat) (j : Int) : Prop := ((35 ≤ a ∧ a ≤ 36) ∧ j = 3) ∨ (a = 40 ∧ j = 4) ∨ ((37 ≤ a ∧ a ≤ 39)) ∨ ((41 ≤ a ∧ a ≤ 45))
theorem fr_X11_keep {N : Nat}  {σ : Sto} {res : Int × Sto} (hF : F_X11_keep N  σ = some res) : Fr (Wr_X11_keep) σ res.2 := by
  unfold F_X11_keep at hF
  obtain ⟨q1, eq1, hF⟩ := bind_some' hF
  obtain ⟨b2, eb2, kb2, hF⟩ := asB_some hF
  obtain ⟨q3, eq3, hF⟩ := bind_some' hF
  obtain ⟨b4, eb4, kb4, hF⟩ := asB_some hF
  obtain ⟨y5, hF⟩ := grd_some hF
  obtain rfl := Option.some.inj hF
  exact (Fr_cp (Fr_tr (Fr_tr (Fr_up Fr.rf (show Wr_X11_keep _ _ from (Or.inl (by omega)))) (Fr_mono (fr_X5_copy (res := q1) eq1) (fun a j h => by
      unfold Wr_X5_copy at h
      unfold Wr_X11_keep
      rcases h with h | h
      · exact (Or.inl (by omega))
      · exact (Or.inr (Or.inr (Or.inl (by omega))))))) (Fr_mono (fr_X7_copy (res := q3) eq3) (fun a j h => by
      unfold Wr_X7_copy at h
      unfold Wr_X11_keep
      rcases h with h | h
      · exact (Or.inr (Or.inl (by omega)))
      · exact (Or.inr (Or.inr (Or.inr (by omega))))))) (fun j => (show Wr_X11_keep _ _ from (Or.inr (Or.inr (Or.inr (by omega)))))))
def Wr_X11_back (a : Nat) (j : Int) : Prop := (a = 33 ∧ j = 1) ∨ (a = 0 ∧ j = 16) ∨ (a = 0 ∧ j = 17) ∨ (a = 29 ∧ j = 3) ∨ (a = 11 ∧ j = 4) ∨ (a = 24 ∧ j = 4) ∨ (a = 10) ∨ ((12 ≤ a ∧ a ≤ 15)) ∨ (a = 23) ∨ ((25 ≤ a ∧ a ≤ 28)) ∨ ((30 ≤ a ∧ a ≤ 32))
theorem fr_X11_back {N : Nat}  {σ : Sto} {res : Int × Sto} (hF : F_X11_back N  σ = some res) : Fr (Wr_X11_back) σ res.2 := by
  unfold F_X11_back at hF
  by_cases c1 : (σ.1 35 3) = 0
  · have hF := (if_pos c1).symm.trans hF
    obtain rfl := Option.some.inj hF
    exact Fr.rf
  · have hF := (if_neg c1).symm.trans hF
    obtain ⟨q2, eq2, hF⟩ := bind_some' hF
    obtain ⟨b3, eb3, kb3, hF⟩ := asB_some hF
    obtain ⟨q4, eq4, hF⟩ := bind_some' hF
    obtain ⟨b5, eb5, kb5, hF⟩ := asB_some hF
    obtain ⟨y6, hF⟩ := grd_some hF
    obtain ⟨q7, eq7, hF⟩ := bind_some' hF
    obtain ⟨q8, eq8, hF⟩ := bind_some' hF
    obtain rfl := Option.some.inj hF
    exact (Fr_tr (Fr_tr (Fr_cp (Fr_tr (Fr_tr Fr.rf (Fr_mono (fr_X5_copy (res := q2) eq2) (fun a j h => by
      unfold Wr_X5_copy at h
      unfold Wr_X11_back
      rcases h with h | h
      · exact (Or.inr (Or.inr (Or.inr (Or.inl (by omega)))))
      · exact (Or.inr (Or.inr (Or.inr (Or.inr (Or.inr (Or.inr (Or.inr (Or.inr (Or.inr (Or.inr (by omega)))))))))))))) (Fr_mono (fr_X7_copy (res := q4) eq4) (fun a j h => by
      unfold Wr_X7_copy at h
      unfold Wr_X11_back
      rcases h with h | h
      · rcases bookc kb3 with hbk | hbk <;> first | exact (Or.inr (Or.inr (Or.inr (Or.inr (Or.inl (by omega)))))) | exact (Or.inr (Or.inr (Or.inr (Or.inr (Or.inr (Or.inl (by omega)))))))
      · rcases bookc kb3 with hbk | hbk <;> first | exact (Or.inr (Or.inr (Or.inr (Or.inr (Or.inr (Or.inr (Or.inr (Or.inl (by omega))))))))) | exact (Or.inr (Or.inr (Or.inr (Or.inr (Or.inr (Or.inr (Or.inr (Or.inr (Or.inr (Or.inl (by omega)))))))))))))) (fun j => (by rcases bookc kb5 with hbk | hbk <;> first | exact (Or.inr (Or.inr (Or.inr (Or.inr (Or.inr (Or.inr (Or.inl (by omega)))))))) | exact (Or.inr (Or.inr (Or.inr (Or.inr (Or.inr (Or.inr (Or.inr (Or.inr (Or.inl (by omega))))))))))))) (Fr_mono (fr_X2_clear (res := q7) eq7) (fun a j h => by have h : Wr_X2_clear a j := h; unfold Wr_X2_clear at h; unfold Wr_X11_back; (exact (Or.inl (by omega)))))) (Fr_mono (fr_X11_forgetNet (res := q8) eq8) (fun a j h => by
      unfold Wr_X11_forgetNet at h
      unfold Wr_X11_back
      rcases h with h | h
      · exact (Or.inr (Or.inl (by omega)))
      · exact (Or.inr (Or.inr (Or.inl (by omega)))))))
def Wr_X12_feed (a : Nat) (j : Int) : Prop := (a = 94 ∧ j = 1) ∨ (a = 94 ∧ j = 2) ∨ (a = 95)
theorem fr_X12_feed_J113 {N : Nat}    {σ : Sto} {res : Int × Sto} (hF : F_X12_feed_J113 N   σ = some res) : Fr (Wr_X12_feed) σ res.2 := by
  unfold F_X12_feed_J113 at hF
  obtain rfl := Option.some.inj hF
  exact (Fr_up Fr.rf (show Wr_X12_feed _ _ from (Or.inl (by omega))))
theorem fr_X12_feed_J76 {N : Nat}  {nx23 : (Int × Sto) → Option (Int × Sto)} {v1 : Int} {v2 : Int} {v3 : Int} {v4 : Int} {v5 : Int} {v6 : Int} {t0 : Int} {σ : Sto} {res : Int × Sto} (hnx23 : ∀ q, nx23 q = some res → Fr (Wr_X12_feed) q.2 res.2) (hF : F_X12_feed_J76 N nx23 v1 v2 v3 v4 v5 v6 t0 σ = some res) : Fr (Wr_X12_feed) σ res.2 := by
  unfold F_X12_feed_J76 at hF
  obtain ⟨b3, hF⟩ := inb_some hF
  exact Fr_tr (Fr_up Fr.rf (show Wr_X12_feed _ _ from (Or.inr (Or.inr (by omega))))) (hnx23 ((ja v6 1), (upI σ 95 (ja (σ.1 94 1) v6) (jand (jshr t0 (js 24 (jm 8 (jrem v6 4)))) 255))) hF)
theorem fr_X12_feed_B23 {N : Nat}  {nx23 : (Int × Sto) → Option (Int × Sto)} {v1 : Int} {v2 : Int} {v3 : Int} {v4 : Int} {v5 : Int} {v6 : Int} {σ : Sto} {res : Int × Sto} (hnx23 : ∀ q, nx23 q = some res → Fr (Wr_X12_feed) q.2 res.2) (hF : F_X12_feed_B23 N nx23 v1 v2 v3 v4 v5 v6 σ = some res) : Fr (Wr_X12_feed) σ res.2 := by
  unfold F_X12_feed_B23 at hF
  by_cases c2 : 20 ≤ v6
  · have hF := (if_pos c2).symm.trans hF
    exact fr_X12_feed_J113  hF
  · have hF := (if_neg c2).symm.trans hF
    by_cases c4 : 4 ≤ v6
    · have hF := (if_pos c4).symm.trans hF
      by_cases c5 : 8 ≤ v6
      · have hF := (if_pos c5).symm.trans hF
        by_cases c6 : 12 ≤ v6
        · have hF := (if_pos c6).symm.trans hF
          by_cases c7 : 16 ≤ v6
          · have hF := (if_pos c7).symm.trans hF
            exact fr_X12_feed_J76 hnx23 hF
          · have hF := (if_neg c7).symm.trans hF
            exact fr_X12_feed_J76 hnx23 hF
        · have hF := (if_neg c6).symm.trans hF
          exact fr_X12_feed_J76 hnx23 hF
      · have hF := (if_neg c5).symm.trans hF
        exact fr_X12_feed_J76 hnx23 hF
    · have hF := (if_neg c4).symm.trans hF
      exact fr_X12_feed_J76 hnx23 hF
theorem fr_X12_feed {N : Nat} {v1 : Int} {v2 : Int} {v3 : Int} {v4 : Int} {v5 : Int} {σ : Sto} {res : Int × Sto} (hF : F_X12_feed N v1 v2 v3 v4 v5 σ = some res) : Fr (Wr_X12_feed) σ res.2 := by
  unfold F_X12_feed at hF
  by_cases c1 : (ja ((upI σ 94 2 0).1 94 1) 20) ≤ 700
  · have hF := (if_pos c1).symm.trans hF
    exact Fr_tr (Fr_up Fr.rf (show Wr_X12_feed _ _ from (Or.inr (Or.inl (by omega))))) (loopK_ind (res := res) (P := fun (q : Int × Sto) => Fr (Wr_X12_feed) q.2 res.2) (fun nx q hn hF => fr_X12_feed_B23 hn hF) N (0, (upI σ 94 2 0)) hF)
  · have hF := (if_neg c1).symm.trans hF
    obtain rfl := Option.some.inj hF
    exact (Fr_up Fr.rf (show Wr_X12_feed _ _ from (Or.inr (Or.inl (by omega)))))
def Wr_X12_wrong (a : Nat) (j : Int) : Prop := (a = 94 ∧ j = 4) ∨ (a = 94 ∧ j = 5)
theorem fr_X12_wrong {N : Nat} {v1 : Int} {σ : Sto} {res : Int × Sto} (hF : F_X12_wrong N v1 σ = some res) : Fr (Wr_X12_wrong) σ res.2 := by
  unfold F_X12_wrong at hF
  obtain rfl := Option.some.inj hF
  exact (Fr_up (Fr_up Fr.rf (show Wr_X12_wrong _ _ from (Or.inl (by omega)))) (show Wr_X12_wrong _ _ from (Or.inr (by omega))))
def Wr_X12_token (a : Nat) (j : Int) : Prop := (a = 94 ∧ j = 10) ∨ (a = 94 ∧ j = 7) ∨ (a = 94 ∧ j = 8) ∨ (a = 94 ∧ j = 9)
theorem fr_X12_token_J352 {N : Nat}    {σ : Sto} {res : Sto} (hF : F_X12_token_J352 N   σ = some res) : Fr (Wr_X12_token) σ res := by
  unfold F_X12_token_J352 at hF
  by_cases c4 : (σ.1 94 8) = 6
  · have hF := (if_pos c4).symm.trans hF
    obtain rfl := Option.some.inj hF
    exact (Fr_up Fr.rf (show Wr_X12_token _ _ from (Or.inr (Or.inr (Or.inr (by omega))))))
  · have hF := (if_neg c4).symm.trans hF
    obtain rfl := Option.some.inj hF
    exact Fr.rf
theorem fr_X12_token_J336 {N : Nat}  {nx288 : (Sto) → Option (Sto)} {t1 : Int} {σ : Sto} {res : Sto} (hnx288 : ∀ q, nx288 q = some res → Fr (Wr_X12_token) q res) (hF : F_X12_token_J336 N nx288 t1 σ = some res) : Fr (Wr_X12_token) σ res := by
  unfold F_X12_token_J336 at hF
  exact Fr_tr (Fr_up (Fr_up Fr.rf (show Wr_X12_token _ _ from (Or.inr (Or.inr (Or.inr (by omega)))))) (show Wr_X12_token _ _ from (Or.inr (Or.inl (by omega))))) (hnx288 (upI (upI σ 94 9 t1) 94 7 (ja ((upI σ 94 9 t1).1 94 7) 1)) hF)
theorem fr_X12_token_B288 {N : Nat}  {nx288 : (Sto) → Option (Sto)}  {σ : Sto} {res : Sto} (hnx288 : ∀ q, nx288 q = some res → Fr (Wr_X12_token) q res) (hF : F_X12_token_B288 N nx288  σ = some res) : Fr (Wr_X12_token) σ res := by
  unfold F_X12_token_B288 at hF
  obtain ⟨q5, eq5, hF⟩ := bind_some' hF
  by_cases c6 : q5 = 0
  · have hF := (if_pos c6).symm.trans hF
    exact fr_X12_token_J352  hF
  · have hF := (if_neg c6).symm.trans hF
    by_cases c7 : (σ.1 94 9) ≤ 99999
    · have hF := (if_pos c7).symm.trans hF
      obtain ⟨b8, hF⟩ := inb_some hF
      exact fr_X12_token_J336 hnx288 hF
    · have hF := (if_neg c7).symm.trans hF
      exact fr_X12_token_J336 hnx288 hF
theorem fr_X12_token_J283 {N : Nat}    {σ : Sto} {res : Sto} (hF : F_X12_token_J283 N   σ = some res) : Fr (Wr_X12_token) σ res := by
  unfold F_X12_token_J283 at hF
  exact Fr_tr (Fr_up Fr.rf (show Wr_X12_token _ _ from (Or.inr (Or.inr (Or.inr (by omega)))))) (loopK_ind (res := res) (P := fun (q : Sto) => Fr (Wr_X12_token) q res) (fun nx q hn hF => fr_X12_token_B288 hn hF) N (upI σ 94 9 0) hF)
theorem fr_X12_token_J261 {N : Nat}   {t1 : Int} {σ : Sto} {res : Sto} (hF : F_X12_token_J261 N  t1 σ = some res) : Fr (Wr_X12_token) σ res := by
  unfold F_X12_token_J261 at hF
  by_cases c9 : ((upI σ 94 8 t1).1 94 8) = 6
  · have hF := (if_pos c9).symm.trans hF
    exact Fr_tr (Fr_up (Fr_up Fr.rf (show Wr_X12_token _ _ from (Or.inr (Or.inr (Or.inl (by omega)))))) (show Wr_X12_token _ _ from (Or.inr (Or.inl (by omega))))) (fr_X12_token_J283  hF)
  · have hF := (if_neg c9).symm.trans hF
    exact Fr_tr (Fr_up Fr.rf (show Wr_X12_token _ _ from (Or.inr (Or.inr (Or.inl (by omega)))))) (fr_X12_token_J283  hF)
theorem fr_X12_token_J240 {N : Nat}    {σ : Sto} {res : Sto} (hF : F_X12_token_J240 N   σ = some res) : Fr (Wr_X12_token) σ res := by
  unfold F_X12_token_J240 at hF
  obtain ⟨b10, hF⟩ := inb_some hF
  by_cases c11 : (σ.1 95 (σ.1 94 7)) = 45
  · have hF := (if_pos c11).symm.trans hF
    exact fr_X12_token_J261  hF
  · have hF := (if_neg c11).symm.trans hF
    exact fr_X12_token_J261  hF
theorem fr_X12_token_J393 {N : Nat}   {t1 : Int} {σ : Sto} {res : Sto} (hF : F_X12_token_J393 N  t1 σ = some res) : Fr (Wr_X12_token) σ res := by
  unfold F_X12_token_J393 at hF
  obtain rfl := Option.some.inj hF
  exact (Fr_up (Fr_up Fr.rf (show Wr_X12_token _ _ from (Or.inr (Or.inr (Or.inl (by omega)))))) (show Wr_X12_token _ _ from (Or.inr (Or.inl (by omega)))))
theorem fr_X12_token_J373 {N : Nat}    {σ : Sto} {res : Sto} (hF : F_X12_token_J373 N   σ = some res) : Fr (Wr_X12_token) σ res := by
  unfold F_X12_token_J373 at hF
  obtain ⟨b14, hF⟩ := inb_some hF
  by_cases c15 : (σ.1 95 (σ.1 94 7)) = 59
  · have hF := (if_pos c15).symm.trans hF
    exact fr_X12_token_J393  hF
  · have hF := (if_neg c15).symm.trans hF
    exact fr_X12_token_J393  hF
theorem fr_X12_token_J161 {N : Nat}   {t1 : Int} {σ : Sto} {res : Sto} (hF : F_X12_token_J161 N  t1 σ = some res) : Fr (Wr_X12_token) σ res := by
  unfold F_X12_token_J161 at hF
  by_cases c21 : ((upI σ 94 8 t1).1 94 8) = 2
  · have hF := (if_pos c21).symm.trans hF
    obtain ⟨q22, eq22, hF⟩ := bind_some' hF
    obtain rfl := Option.some.inj hF
    exact (Fr_up (Fr_up Fr.rf (show Wr_X12_token _ _ from (Or.inr (Or.inr (Or.inl (by omega)))))) (show Wr_X12_token _ _ from (Or.inr (Or.inr (Or.inr (by omega))))))
  · have hF := (if_neg c21).symm.trans hF
    obtain rfl := Option.some.inj hF
    exact (Fr_up Fr.rf (show Wr_X12_token _ _ from (Or.inr (Or.inr (Or.inl (by omega))))))
theorem fr_X12_token_J114 {N : Nat}    {σ : Sto} {res : Sto} (hF : F_X12_token_J114 N   σ = some res) : Fr (Wr_X12_token) σ res := by
  unfold F_X12_token_J114 at hF
  obtain ⟨q23, eq23, hF⟩ := bind_some' hF
  by_cases c24 : ((upI σ 94 9 q23).1 94 9) < 0
  · have hF := (if_pos c24).symm.trans hF
    by_cases c25 : (js ((upI σ 94 9 q23).1 94 7) ((upI σ 94 9 q23).1 94 10)) ≤ 6
    · have hF := (if_pos c25).symm.trans hF
      exact Fr_tr (Fr_up Fr.rf (show Wr_X12_token _ _ from (Or.inr (Or.inr (Or.inr (by omega)))))) (fr_X12_token_J161  hF)
    · have hF := (if_neg c25).symm.trans hF
      exact Fr_tr (Fr_up Fr.rf (show Wr_X12_token _ _ from (Or.inr (Or.inr (Or.inr (by omega)))))) (fr_X12_token_J161  hF)
  · have hF := (if_neg c24).symm.trans hF
    exact Fr_tr (Fr_up Fr.rf (show Wr_X12_token _ _ from (Or.inr (Or.inr (Or.inr (by omega)))))) (fr_X12_token_J161  hF)
theorem fr_X12_token_B90 {N : Nat}  {nx90 : (Sto) → Option (Sto)}  {σ : Sto} {res : Sto} (hnx90 : ∀ q, nx90 q = some res → Fr (Wr_X12_token) q res) (hF : F_X12_token_B90 N nx90  σ = some res) : Fr (Wr_X12_token) σ res := by
  unfold F_X12_token_B90 at hF
  obtain ⟨q26, eq26, hF⟩ := bind_some' hF
  by_cases c27 : q26 = 0
  · have hF := (if_pos c27).symm.trans hF
    exact fr_X12_token_J114  hF
  · have hF := (if_neg c27).symm.trans hF
    exact Fr_tr (Fr_up Fr.rf (show Wr_X12_token _ _ from (Or.inr (Or.inl (by omega))))) (hnx90 (upI σ 94 7 (ja (σ.1 94 7) 1)) hF)
theorem fr_X12_token_J52 {N : Nat}    {σ : Sto} {res : Sto} (hF : F_X12_token_J52 N   σ = some res) : Fr (Wr_X12_token) σ res := by
  unfold F_X12_token_J52 at hF
  by_cases c1 : ((upI σ 94 10 (σ.1 94 7)).1 94 7) = ((upI σ 94 10 (σ.1 94 7)).1 94 6)
  · have hF := (if_pos c1).symm.trans hF
    obtain rfl := Option.some.inj hF
    exact (Fr_up (Fr_up Fr.rf (show Wr_X12_token _ _ from (Or.inl (by omega)))) (show Wr_X12_token _ _ from (Or.inr (Or.inr (Or.inl (by omega))))))
  · have hF := (if_neg c1).symm.trans hF
    obtain ⟨q2, eq2, hF⟩ := bind_some' hF
    by_cases c3 : q2 = 0
    · have hF := (if_pos c3).symm.trans hF
      obtain ⟨q12, eq12, hF⟩ := bind_some' hF
      by_cases c13 : q12 = 0
      · have hF := (if_pos c13).symm.trans hF
        by_cases c16 : ((upI σ 94 10 (σ.1 94 7)).1 94 6) ≤ ((upI σ 94 10 (σ.1 94 7)).1 94 7)
        · have hF := (if_pos c16).symm.trans hF
          exact Fr_tr (Fr_up Fr.rf (show Wr_X12_token _ _ from (Or.inl (by omega)))) (fr_X12_token_J373  hF)
        · have hF := (if_neg c16).symm.trans hF
          obtain ⟨b17, hF⟩ := inb_some hF
          by_cases c18 : ((upI σ 94 10 (σ.1 94 7)).1 95 ((upI σ 94 10 (σ.1 94 7)).1 94 7)) = 45
          · have hF := (if_pos c18).symm.trans hF
            obtain ⟨q19, eq19, hF⟩ := bind_some' hF
            by_cases c20 : q19 = 0
            · have hF := (if_pos c20).symm.trans hF
              exact Fr_tr (Fr_up Fr.rf (show Wr_X12_token _ _ from (Or.inl (by omega)))) (fr_X12_token_J373  hF)
            · have hF := (if_neg c20).symm.trans hF
              exact Fr_tr (Fr_up Fr.rf (show Wr_X12_token _ _ from (Or.inl (by omega)))) (fr_X12_token_J240  hF)
          · have hF := (if_neg c18).symm.trans hF
            exact Fr_tr (Fr_up Fr.rf (show Wr_X12_token _ _ from (Or.inl (by omega)))) (fr_X12_token_J373  hF)
      · have hF := (if_neg c13).symm.trans hF
        exact Fr_tr (Fr_up Fr.rf (show Wr_X12_token _ _ from (Or.inl (by omega)))) (fr_X12_token_J240  hF)
    · have hF := (if_neg c3).symm.trans hF
      exact Fr_tr (Fr_up Fr.rf (show Wr_X12_token _ _ from (Or.inl (by omega)))) (loopK_ind (res := res) (P := fun (q : Sto) => Fr (Wr_X12_token) q res) (fun nx q hn hF => fr_X12_token_B90 hn hF) N (upI σ 94 10 (σ.1 94 7)) hF)
theorem fr_X12_token_J39 {N : Nat}  {nx0 : (Sto) → Option (Sto)}  {σ : Sto} {res : Sto} (hnx0 : ∀ q, nx0 q = some res → Fr (Wr_X12_token) q res) (hF : F_X12_token_J39 N nx0  σ = some res) : Fr (Wr_X12_token) σ res := by
  unfold F_X12_token_J39 at hF
  exact Fr_tr (Fr_up Fr.rf (show Wr_X12_token _ _ from (Or.inr (Or.inl (by omega))))) (hnx0 (upI σ 94 7 (ja (σ.1 94 7) 1)) hF)
theorem fr_X12_token_B0 {N : Nat}  {nx0 : (Sto) → Option (Sto)}  {σ : Sto} {res : Sto} (hnx0 : ∀ q, nx0 q = some res → Fr (Wr_X12_token) q res) (hF : F_X12_token_B0 N nx0  σ = some res) : Fr (Wr_X12_token) σ res := by
  unfold F_X12_token_B0 at hF
  by_cases c28 : (σ.1 94 6) ≤ (σ.1 94 7)
  · have hF := (if_pos c28).symm.trans hF
    exact fr_X12_token_J52  hF
  · have hF := (if_neg c28).symm.trans hF
    obtain ⟨b29, hF⟩ := inb_some hF
    by_cases c30 : (σ.1 95 (σ.1 94 7)) = 10
    · have hF := (if_pos c30).symm.trans hF
      exact fr_X12_token_J39 hnx0 hF
    · have hF := (if_neg c30).symm.trans hF
      by_cases c31 : (σ.1 95 (σ.1 94 7)) = 32
      · have hF := (if_pos c31).symm.trans hF
        exact fr_X12_token_J39 hnx0 hF
      · have hF := (if_neg c31).symm.trans hF
        exact fr_X12_token_J52  hF
theorem fr_X12_token {N : Nat}  {σ : Sto} {res : Sto} (hF : F_X12_token N  σ = some res) : Fr (Wr_X12_token) σ res := by
  unfold F_X12_token at hF
  exact (loopK_ind (res := res) (P := fun (q : Sto) => Fr (Wr_X12_token) q res) (fun nx q hn hF => fr_X12_token_B0 hn hF) N σ hF)
def Wr_X12_plain (a : Nat) (j : Int) : Prop := (a = 94 ∧ j = 12) ∨ (a = 94 ∧ j = 15) ∨ (a = 94 ∧ j = 18) ∨ (a = 94 ∧ j = 21) ∨ (a = 100)
theorem fr_X12_plain {N : Nat}  {σ : Sto} {res : Sto} (hF : F_X12_plain N  σ = some res) : Fr (Wr_X12_plain) σ res := by
  unfold F_X12_plain at hF
  obtain ⟨b1, hF⟩ := inb_some hF
  obtain ⟨b2, hF⟩ := inb_some hF
  obtain ⟨b3, hF⟩ := inb_some hF
  obtain ⟨b4, hF⟩ := inb_some hF
  obtain rfl := Option.some.inj hF
  exact (Fr_up (Fr_up (Fr_up (Fr_up (Fr_up (Fr_up (Fr_up (Fr_up Fr.rf (show Wr_X12_plain _ _ from (Or.inl (by omega)))) (show Wr_X12_plain _ _ from (Or.inr (Or.inl (by omega))))) (show Wr_X12_plain _ _ from (Or.inr (Or.inr (Or.inl (by omega)))))) (show Wr_X12_plain _ _ from (Or.inr (Or.inr (Or.inr (Or.inr (by omega))))))) (show Wr_X12_plain _ _ from (Or.inr (Or.inr (Or.inr (Or.inr (by omega))))))) (show Wr_X12_plain _ _ from (Or.inr (Or.inr (Or.inr (Or.inr (by omega))))))) (show Wr_X12_plain _ _ from (Or.inr (Or.inr (Or.inr (Or.inr (by omega))))))) (show Wr_X12_plain _ _ from (Or.inr (Or.inr (Or.inr (Or.inl (by omega)))))))
def Wr_X12_copies (v0 : Nat) (a : Nat) (j : Int) : Prop := (a = v0)
theorem fr_X12_copies_B2 {N : Nat}  {nx2 : (Int × Sto) → Option (Sto)} {v0 : Nat} {v1 : Int} {v2 : Int} {σ : Sto} {res : Sto} (hnx2 : ∀ q, nx2 q = some res → Fr (Wr_X12_copies v0) q.2 res) (hF : F_X12_copies_B2 N nx2 v0 v1 v2 σ = some res) : Fr (Wr_X12_copies v0) σ res := by
  unfold F_X12_copies_B2 at hF
  by_cases c1 : v1 ≤ v2
  · have hF := (if_pos c1).symm.trans hF
    obtain rfl := Option.some.inj hF
    exact Fr.rf
  · have hF := (if_neg c1).symm.trans hF
    obtain ⟨b2, hF⟩ := inb_some hF
    obtain ⟨b3, hF⟩ := inb_some hF
    exact Fr_tr (Fr_up Fr.rf (show Wr_X12_copies v0 _ _ from (by unfold Wr_X12_copies; omega))) (hnx2 ((ja v2 1), (upI σ v0 v2 (σ.1 v0 (ja v1 v2)))) hF)
theorem fr_X12_copies {N : Nat} {v0 : Nat} {v1 : Int} {σ : Sto} {res : Sto} (hF : F_X12_copies N v0 v1 σ = some res) : Fr (Wr_X12_copies v0) σ res := by
  unfold F_X12_copies at hF
  exact (loopK_ind (res := res) (P := fun (q : Int × Sto) => Fr (Wr_X12_copies v0) q.2 res) (fun nx q hn hF => fr_X12_copies_B2 hn hF) N (0, σ) hF)
def Wr_X12_lay (a : Nat) (j : Int) : Prop := (a = 101)
theorem fr_X12_lay {N : Nat} {v1 : Int} {v2 : Int} {σ : Sto} {res : Sto} (hF : F_X12_lay N v1 v2 σ = some res) : Fr (Wr_X12_lay) σ res := by
  unfold F_X12_lay at hF
  obtain ⟨b1, hF⟩ := inb_some hF
  obtain rfl := Option.some.inj hF
  exact (Fr_up Fr.rf (show Wr_X12_lay _ _ from (by unfold Wr_X12_lay; omega)))
def Wr_X12_keepText (a : Nat) (j : Int) : Prop := (a = 94 ∧ j = 11) ∨ (a = 94 ∧ j = 14) ∨ (a = 94 ∧ j = 17) ∨ (a = 94 ∧ j = 24) ∨ (a = 94 ∧ j = 25) ∨ (a = 94 ∧ j = 26) ∨ (a = 94 ∧ j = 33) ∨ ((97 ≤ a ∧ a ≤ 101))
theorem fr_X12_keepText_B136 {N : Nat}  {nx136 : (Int × Sto) → Option (Sto)} {v1 : Int} {σ : Sto} {res : Sto} (hnx136 : ∀ q, nx136 q = some res → Fr (Wr_X12_keepText) q.2 res) (hF : F_X12_keepText_B136 N nx136 v1 σ = some res) : Fr (Wr_X12_keepText) σ res := by
  unfold F_X12_keepText_B136 at hF
  by_cases c8 : (jm 4 (σ.1 94 17)) ≤ v1
  · have hF := (if_pos c8).symm.trans hF
    obtain rfl := Option.some.inj hF
    exact Fr.rf
  · have hF := (if_neg c8).symm.trans hF
    obtain ⟨b9, hF⟩ := inb_some hF
    obtain ⟨q10, eq10, hF⟩ := bind_some' hF
    exact Fr_tr (Fr_tr Fr.rf (Fr_mono (fr_X12_lay (res := q10) eq10) (fun a j h => by have h : Wr_X12_lay a j := h; unfold Wr_X12_lay at h; unfold Wr_X12_keepText; (exact (Or.inr (Or.inr (Or.inr (Or.inr (Or.inr (Or.inr (Or.inr (by omega)))))))))))) (hnx136 ((ja v1 1), q10) hF)
theorem fr_X12_keepText_J134 {N : Nat}    {σ : Sto} {res : Sto} (hF : F_X12_keepText_J134 N   σ = some res) : Fr (Wr_X12_keepText) σ res := by
  unfold F_X12_keepText_J134 at hF
  exact (loopK_ind (res := res) (P := fun (q : Int × Sto) => Fr (Wr_X12_keepText) q.2 res) (fun nx q hn hF => fr_X12_keepText_B136 hn hF) N (0, σ) hF)
theorem fr_X12_keepText_B102 {N : Nat}  {nx102 : (Int × Sto) → Option (Sto)} {v1 : Int} {σ : Sto} {res : Sto} (hnx102 : ∀ q, nx102 q = some res → Fr (Wr_X12_keepText) q.2 res) (hF : F_X12_keepText_B102 N nx102 v1 σ = some res) : Fr (Wr_X12_keepText) σ res := by
  unfold F_X12_keepText_B102 at hF
  by_cases c11 : (σ.1 94 14) ≤ v1
  · have hF := (if_pos c11).symm.trans hF
    exact fr_X12_keepText_J134  hF
  · have hF := (if_neg c11).symm.trans hF
    obtain ⟨b12, hF⟩ := inb_some hF
    obtain ⟨q13, eq13, hF⟩ := bind_some' hF
    exact Fr_tr (Fr_tr Fr.rf (Fr_mono (fr_X12_lay (res := q13) eq13) (fun a j h => by have h : Wr_X12_lay a j := h; unfold Wr_X12_lay at h; unfold Wr_X12_keepText; (exact (Or.inr (Or.inr (Or.inr (Or.inr (Or.inr (Or.inr (Or.inr (by omega)))))))))))) (hnx102 ((ja v1 1), q13) hF)
theorem fr_X12_keepText {N : Nat}  {σ : Sto} {res : Sto} (hF : F_X12_keepText N  σ = some res) : Fr (Wr_X12_keepText) σ res := by
  unfold F_X12_keepText at hF
  obtain ⟨q1, eq1, hF⟩ := bind_some' hF
  obtain ⟨q2, eq2, hF⟩ := bind_some' hF
  obtain ⟨q3, eq3, hF⟩ := bind_some' hF
  obtain ⟨q4, eq4, hF⟩ := bind_some' hF
  obtain ⟨b5, hF⟩ := inb_some hF
  obtain ⟨q6, eq6, hF⟩ := bind_some' hF
  obtain ⟨q7, eq7, hF⟩ := bind_some' hF
  exact Fr_tr (Fr_tr (Fr_tr (Fr_up (Fr_up (Fr_up (Fr_up (Fr_tr (Fr_tr (Fr_tr (Fr_tr (Fr_up (Fr_up (Fr_up Fr.rf (show Wr_X12_keepText _ _ from (Or.inl (by omega)))) (show Wr_X12_keepText _ _ from (Or.inr (Or.inl (by omega))))) (show Wr_X12_keepText _ _ from (Or.inr (Or.inr (Or.inl (by omega)))))) (Fr_mono (fr_X12_copies (res := q1) eq1) (fun a j h => by have h : Wr_X12_copies _ a j := h; unfold Wr_X12_copies at h; unfold Wr_X12_keepText; (exact (Or.inr (Or.inr (Or.inr (Or.inr (Or.inr (Or.inr (Or.inr (by omega)))))))))))) (Fr_mono (fr_X12_copies (res := q2) eq2) (fun a j h => by have h : Wr_X12_copies _ a j := h; unfold Wr_X12_copies at h; unfold Wr_X12_keepText; (exact (Or.inr (Or.inr (Or.inr (Or.inr (Or.inr (Or.inr (Or.inr (by omega)))))))))))) (Fr_mono (fr_X12_copies (res := q3) eq3) (fun a j h => by have h : Wr_X12_copies _ a j := h; unfold Wr_X12_copies at h; unfold Wr_X12_keepText; (exact (Or.inr (Or.inr (Or.inr (Or.inr (Or.inr (Or.inr (Or.inr (by omega)))))))))))) (Fr_mono (fr_X12_copies (res := q4) eq4) (fun a j h => by have h : Wr_X12_copies _ a j := h; unfold Wr_X12_copies at h; unfold Wr_X12_keepText; (exact (Or.inr (Or.inr (Or.inr (Or.inr (Or.inr (Or.inr (Or.inr (by omega)))))))))))) (show Wr_X12_keepText _ _ from (Or.inr (Or.inr (Or.inr (Or.inr (Or.inr (Or.inr (Or.inl (by omega)))))))))) (show Wr_X12_keepText _ _ from (Or.inr (Or.inr (Or.inr (Or.inl (by omega))))))) (show Wr_X12_keepText _ _ from (Or.inr (Or.inr (Or.inr (Or.inr (Or.inl (by omega)))))))) (show Wr_X12_keepText _ _ from (Or.inr (Or.inr (Or.inr (Or.inr (Or.inr (Or.inl (by omega))))))))) (Fr_mono (fr_X12_lay (res := q6) eq6) (fun a j h => by have h : Wr_X12_lay a j := h; unfold Wr_X12_lay at h; unfold Wr_X12_keepText; (exact (Or.inr (Or.inr (Or.inr (Or.inr (Or.inr (Or.inr (Or.inr (by omega)))))))))))) (Fr_mono (fr_X12_lay (res := q7) eq7) (fun a j h => by have h : Wr_X12_lay a j := h; unfold Wr_X12_lay at h; unfold Wr_X12_keepText; (exact (Or.inr (Or.inr (Or.inr (Or.inr (Or.inr (Or.inr (Or.inr (by omega)))))))))))) (loopK_ind (res := res) (P := fun (q : Int × Sto) => Fr (Wr_X12_keepText) q.2 res) (fun nx q hn hF => fr_X12_keepText_B102 hn hF) N (0, q7) hF)
def Wr_X12_signed (a : Nat) (j : Int) : Prop := (a = 94 ∧ j = 10) ∨ (a = 94 ∧ j = 22) ∨ (a = 94 ∧ j = 4) ∨ (a = 94 ∧ j = 5) ∨ (a = 94 ∧ j = 7) ∨ (a = 94 ∧ j = 8) ∨ (a = 94 ∧ j = 9)
theorem fr_X12_signed_J23 {N : Nat}   {v1 : Int} {v2 : Int} {σ : Sto} {res : Int × Sto} (hF : F_X12_signed_J23 N  v1 v2 σ = some res) : Fr (Wr_X12_signed) σ res.2 := by
  unfold F_X12_signed_J23 at hF
  obtain ⟨q1, eq1, hF⟩ := bind_some' hF
  by_cases c2 : q1 = 0
  · have hF := (if_pos c2).symm.trans hF
    obtain ⟨q4, eq4, hF⟩ := bind_some' hF
    obtain rfl := Option.some.inj hF
    exact (Fr_tr Fr.rf (Fr_mono (fr_X12_wrong (res := q4) eq4) (fun a j h => by
      unfold Wr_X12_wrong at h
      unfold Wr_X12_signed
      rcases h with h | h
      · exact (Or.inr (Or.inr (Or.inl (by omega))))
      · exact (Or.inr (Or.inr (Or.inr (Or.inl (by omega))))))))
  · have hF := (if_neg c2).symm.trans hF
    obtain ⟨q3, eq3, hF⟩ := bind_some' hF
    obtain rfl := Option.some.inj hF
    exact (Fr_tr (Fr_up Fr.rf (show Wr_X12_signed _ _ from (Or.inr (Or.inl (by omega))))) (Fr_mono (fr_X12_token (res := q3) eq3) (fun a j h => by
      unfold Wr_X12_token at h
      unfold Wr_X12_signed
      rcases h with h | h | h | h
      · exact (Or.inl (by omega))
      · exact (Or.inr (Or.inr (Or.inr (Or.inr (Or.inl (by omega))))))
      · exact (Or.inr (Or.inr (Or.inr (Or.inr (Or.inr (Or.inl (by omega)))))))
      · exact (Or.inr (Or.inr (Or.inr (Or.inr (Or.inr (Or.inr (by omega))))))))))
theorem fr_X12_signed {N : Nat} {v1 : Int} {v2 : Int} {σ : Sto} {res : Int × Sto} (hF : F_X12_signed N v1 v2 σ = some res) : Fr (Wr_X12_signed) σ res.2 := by
  unfold F_X12_signed at hF
  by_cases c5 : (σ.1 94 8) = 3
  · have hF := (if_pos c5).symm.trans hF
    exact fr_X12_signed_J23  hF
  · have hF := (if_neg c5).symm.trans hF
    by_cases c6 : (σ.1 94 8) = 6
    · have hF := (if_pos c6).symm.trans hF
      exact fr_X12_signed_J23  hF
    · have hF := (if_neg c6).symm.trans hF
      obtain ⟨q7, eq7, hF⟩ := bind_some' hF
      obtain rfl := Option.some.inj hF
      exact (Fr_tr Fr.rf (Fr_mono (fr_X12_wrong (res := q7) eq7) (fun a j h => by
      unfold Wr_X12_wrong at h
      unfold Wr_X12_signed
      rcases h with h | h
      · exact (Or.inr (Or.inr (Or.inl (by omega))))
      · exact (Or.inr (Or.inr (Or.inr (Or.inl (by omega))))))))
def Wr_X12_number (a : Nat) (j : Int) : Prop := (a = 94 ∧ j = 10) ∨ (a = 94 ∧ j = 22) ∨ (a = 94 ∧ j = 4) ∨ (a = 94 ∧ j = 5) ∨ (a = 94 ∧ j = 7) ∨ (a = 94 ∧ j = 8) ∨ (a = 94 ∧ j = 9)
theorem fr_X12_number {N : Nat} {v1 : Int} {v2 : Int} {σ : Sto} {res : Int × Sto} (hF : F_X12_number N v1 v2 σ = some res) : Fr (Wr_X12_number) σ res.2 := by
  unfold F_X12_number at hF
  by_cases c1 : (σ.1 94 8) = 3
  · have hF := (if_pos c1).symm.trans hF
    obtain ⟨q3, eq3, hF⟩ := bind_some' hF
    obtain rfl := Option.some.inj hF
    exact (Fr_tr Fr.rf (Fr_mono (fr_X12_signed (res := q3) eq3) (fun a j h => by
      unfold Wr_X12_signed at h
      unfold Wr_X12_number
      rcases h with h | h | h | h | h | h | h
      · exact (Or.inl (by omega))
      · exact (Or.inr (Or.inl (by omega)))
      · exact (Or.inr (Or.inr (Or.inl (by omega))))
      · exact (Or.inr (Or.inr (Or.inr (Or.inl (by omega)))))
      · exact (Or.inr (Or.inr (Or.inr (Or.inr (Or.inl (by omega))))))
      · exact (Or.inr (Or.inr (Or.inr (Or.inr (Or.inr (Or.inl (by omega)))))))
      · exact (Or.inr (Or.inr (Or.inr (Or.inr (Or.inr (Or.inr (by omega))))))))))
  · have hF := (if_neg c1).symm.trans hF
    obtain ⟨q2, eq2, hF⟩ := bind_some' hF
    obtain rfl := Option.some.inj hF
    exact (Fr_tr Fr.rf (Fr_mono (fr_X12_wrong (res := q2) eq2) (fun a j h => by
      unfold Wr_X12_wrong at h
      unfold Wr_X12_number
      rcases h with h | h
      · exact (Or.inr (Or.inr (Or.inl (by omega))))
      · exact (Or.inr (Or.inr (Or.inr (Or.inl (by omega))))))))
def Wr_X12_memberRead (a : Nat) (j : Int) : Prop := (a = 94 ∧ j = 10) ∨ (a = 94 ∧ j = 22) ∨ (a = 94 ∧ j = 4) ∨ (a = 94 ∧ j = 5) ∨ (a = 94 ∧ j = 7) ∨ (a = 94 ∧ j = 8) ∨ (a = 94 ∧ j = 9)
theorem fr_X12_memberRead_J51 {N : Nat}    {σ : Sto} {res : Int × Sto} (hF : F_X12_memberRead_J51 N   σ = some res) : Fr (Wr_X12_memberRead) σ res.2 := by
  unfold F_X12_memberRead_J51 at hF
  obtain rfl := Option.some.inj hF
  exact Fr.rf
theorem fr_X12_memberRead {N : Nat}  {σ : Sto} {res : Int × Sto} (hF : F_X12_memberRead N  σ = some res) : Fr (Wr_X12_memberRead) σ res.2 := by
  unfold F_X12_memberRead at hF
  obtain ⟨q1, eq1, hF⟩ := bind_some' hF
  by_cases c2 : (q1.1 94 8) = 2
  · have hF := (if_pos c2).symm.trans hF
    obtain ⟨q3, eq3, hF⟩ := bind_some' hF
    by_cases c4 : 0 ≤ ((upI q1 94 22 q3).1 94 22)
    · have hF := (if_pos c4).symm.trans hF
      exact Fr_tr (Fr_up (Fr_tr Fr.rf (Fr_mono (fr_X12_token (res := q1) eq1) (fun a j h => by
      unfold Wr_X12_token at h
      unfold Wr_X12_memberRead
      rcases h with h | h | h | h
      · exact (Or.inl (by omega))
      · exact (Or.inr (Or.inr (Or.inr (Or.inr (Or.inl (by omega))))))
      · exact (Or.inr (Or.inr (Or.inr (Or.inr (Or.inr (Or.inl (by omega)))))))
      · exact (Or.inr (Or.inr (Or.inr (Or.inr (Or.inr (Or.inr (by omega)))))))))) (show Wr_X12_memberRead _ _ from (Or.inr (Or.inl (by omega))))) (fr_X12_memberRead_J51  hF)
    · have hF := (if_neg c4).symm.trans hF
      obtain ⟨q5, eq5, hF⟩ := bind_some' hF
      by_cases c6 : q5.1 = 0
      · have hF := (if_pos c6).symm.trans hF
        obtain rfl := Option.some.inj hF
        exact (Fr_tr (Fr_up (Fr_tr Fr.rf (Fr_mono (fr_X12_token (res := q1) eq1) (fun a j h => by
      unfold Wr_X12_token at h
      unfold Wr_X12_memberRead
      rcases h with h | h | h | h
      · exact (Or.inl (by omega))
      · exact (Or.inr (Or.inr (Or.inr (Or.inr (Or.inl (by omega))))))
      · exact (Or.inr (Or.inr (Or.inr (Or.inr (Or.inr (Or.inl (by omega)))))))
      · exact (Or.inr (Or.inr (Or.inr (Or.inr (Or.inr (Or.inr (by omega)))))))))) (show Wr_X12_memberRead _ _ from (Or.inr (Or.inl (by omega))))) (Fr_mono (fr_X12_wrong (res := q5) eq5) (fun a j h => by
      unfold Wr_X12_wrong at h
      unfold Wr_X12_memberRead
      rcases h with h | h
      · exact (Or.inr (Or.inr (Or.inl (by omega))))
      · exact (Or.inr (Or.inr (Or.inr (Or.inl (by omega))))))))
      · have hF := (if_neg c6).symm.trans hF
        exact Fr_tr (Fr_tr (Fr_up (Fr_tr Fr.rf (Fr_mono (fr_X12_token (res := q1) eq1) (fun a j h => by
      unfold Wr_X12_token at h
      unfold Wr_X12_memberRead
      rcases h with h | h | h | h
      · exact (Or.inl (by omega))
      · exact (Or.inr (Or.inr (Or.inr (Or.inr (Or.inl (by omega))))))
      · exact (Or.inr (Or.inr (Or.inr (Or.inr (Or.inr (Or.inl (by omega)))))))
      · exact (Or.inr (Or.inr (Or.inr (Or.inr (Or.inr (Or.inr (by omega)))))))))) (show Wr_X12_memberRead _ _ from (Or.inr (Or.inl (by omega))))) (Fr_mono (fr_X12_wrong (res := q5) eq5) (fun a j h => by
      unfold Wr_X12_wrong at h
      unfold Wr_X12_memberRead
      rcases h with h | h
      · exact (Or.inr (Or.inr (Or.inl (by omega))))
      · exact (Or.inr (Or.inr (Or.inr (Or.inl (by omega)))))))) (fr_X12_memberRead_J51  hF)
  · have hF := (if_neg c2).symm.trans hF
    obtain ⟨q7, eq7, hF⟩ := bind_some' hF
    obtain rfl := Option.some.inj hF
    exact (Fr_tr (Fr_tr Fr.rf (Fr_mono (fr_X12_token (res := q1) eq1) (fun a j h => by
      unfold Wr_X12_token at h
      unfold Wr_X12_memberRead
      rcases h with h | h | h | h
      · exact (Or.inl (by omega))
      · exact (Or.inr (Or.inr (Or.inr (Or.inr (Or.inl (by omega))))))
      · exact (Or.inr (Or.inr (Or.inr (Or.inr (Or.inr (Or.inl (by omega)))))))
      · exact (Or.inr (Or.inr (Or.inr (Or.inr (Or.inr (Or.inr (by omega)))))))))) (Fr_mono (fr_X12_wrong (res := q7) eq7) (fun a j h => by
      unfold Wr_X12_wrong at h
      unfold Wr_X12_memberRead
      rcases h with h | h
      · exact (Or.inr (Or.inr (Or.inl (by omega))))
      · exact (Or.inr (Or.inr (Or.inr (Or.inl (by omega))))))))
def Wr_X12_memberLine (a : Nat) (j : Int) : Prop := (a = 94 ∧ j = 10) ∨ (a = 94 ∧ j = 12) ∨ (a = 94 ∧ j = 22) ∨ (a = 94 ∧ j = 4) ∨ (a = 94 ∧ j = 5) ∨ (a = 94 ∧ j = 7) ∨ (a = 94 ∧ j = 8) ∨ (a = 94 ∧ j = 9) ∨ (a = 97)
theorem fr_X12_memberLine {N : Nat}  {σ : Sto} {res : Int × Sto} (hF : F_X12_memberLine N  σ = some res) : Fr (Wr_X12_memberLine) σ res.2 := by
  unfold F_X12_memberLine at hF
  by_cases c1 : (σ.1 94 12) = 8
  · have hF := (if_pos c1).symm.trans hF
    obtain ⟨q16, eq16, hF⟩ := bind_some' hF
    obtain rfl := Option.some.inj hF
    exact (Fr_tr Fr.rf (Fr_mono (fr_X12_wrong (res := q16) eq16) (fun a j h => by
      unfold Wr_X12_wrong at h
      unfold Wr_X12_memberLine
      rcases h with h | h
      · exact (Or.inr (Or.inr (Or.inr (Or.inl (by omega)))))
      · exact (Or.inr (Or.inr (Or.inr (Or.inr (Or.inl (by omega)))))))))
  · have hF := (if_neg c1).symm.trans hF
    obtain ⟨q2, eq2, hF⟩ := bind_some' hF
    by_cases c3 : (q2.1 94 8) = 2
    · have hF := (if_pos c3).symm.trans hF
      obtain ⟨q4, eq4, hF⟩ := bind_some' hF
      by_cases c5 : q4 < 0
      · have hF := (if_pos c5).symm.trans hF
        obtain ⟨b6, hF⟩ := inb_some hF
        obtain ⟨q7, eq7, hF⟩ := bind_some' hF
        obtain ⟨q8, eq8, hF⟩ := bind_some' hF
        by_cases c9 : q8.1 = 0
        · have hF := (if_pos c9).symm.trans hF
          obtain rfl := Option.some.inj hF
          exact (Fr_tr (Fr_tr (Fr_up (Fr_tr Fr.rf (Fr_mono (fr_X12_token (res := q2) eq2) (fun a j h => by
      unfold Wr_X12_token at h
      unfold Wr_X12_memberLine
      rcases h with h | h | h | h
      · exact (Or.inl (by omega))
      · exact (Or.inr (Or.inr (Or.inr (Or.inr (Or.inr (Or.inl (by omega)))))))
      · exact (Or.inr (Or.inr (Or.inr (Or.inr (Or.inr (Or.inr (Or.inl (by omega))))))))
      · exact (Or.inr (Or.inr (Or.inr (Or.inr (Or.inr (Or.inr (Or.inr (Or.inl (by omega)))))))))))) (show Wr_X12_memberLine _ _ from (Or.inr (Or.inr (Or.inr (Or.inr (Or.inr (Or.inr (Or.inr (Or.inr (by omega))))))))))) (Fr_mono (fr_X12_token (res := q7) eq7) (fun a j h => by
      unfold Wr_X12_token at h
      unfold Wr_X12_memberLine
      rcases h with h | h | h | h
      · exact (Or.inl (by omega))
      · exact (Or.inr (Or.inr (Or.inr (Or.inr (Or.inr (Or.inl (by omega)))))))
      · exact (Or.inr (Or.inr (Or.inr (Or.inr (Or.inr (Or.inr (Or.inl (by omega))))))))
      · exact (Or.inr (Or.inr (Or.inr (Or.inr (Or.inr (Or.inr (Or.inr (Or.inl (by omega)))))))))))) (Fr_mono (fr_X12_number (res := q8) eq8) (fun a j h => by
      unfold Wr_X12_number at h
      unfold Wr_X12_memberLine
      rcases h with h | h | h | h | h | h | h
      · exact (Or.inl (by omega))
      · exact (Or.inr (Or.inr (Or.inl (by omega))))
      · exact (Or.inr (Or.inr (Or.inr (Or.inl (by omega)))))
      · exact (Or.inr (Or.inr (Or.inr (Or.inr (Or.inl (by omega))))))
      · exact (Or.inr (Or.inr (Or.inr (Or.inr (Or.inr (Or.inl (by omega)))))))
      · exact (Or.inr (Or.inr (Or.inr (Or.inr (Or.inr (Or.inr (Or.inl (by omega))))))))
      · exact (Or.inr (Or.inr (Or.inr (Or.inr (Or.inr (Or.inr (Or.inr (Or.inl (by omega))))))))))))
        · have hF := (if_neg c9).symm.trans hF
          obtain ⟨b10, hF⟩ := inb_some hF
          obtain ⟨q11, eq11, hF⟩ := bind_some' hF
          by_cases c12 : q11.1 = 0
          · have hF := (if_pos c12).symm.trans hF
            obtain rfl := Option.some.inj hF
            exact (Fr_tr (Fr_up (Fr_tr (Fr_tr (Fr_up (Fr_tr Fr.rf (Fr_mono (fr_X12_token (res := q2) eq2) (fun a j h => by
      unfold Wr_X12_token at h
      unfold Wr_X12_memberLine
      rcases h with h | h | h | h
      · exact (Or.inl (by omega))
      · exact (Or.inr (Or.inr (Or.inr (Or.inr (Or.inr (Or.inl (by omega)))))))
      · exact (Or.inr (Or.inr (Or.inr (Or.inr (Or.inr (Or.inr (Or.inl (by omega))))))))
      · exact (Or.inr (Or.inr (Or.inr (Or.inr (Or.inr (Or.inr (Or.inr (Or.inl (by omega)))))))))))) (show Wr_X12_memberLine _ _ from (Or.inr (Or.inr (Or.inr (Or.inr (Or.inr (Or.inr (Or.inr (Or.inr (by omega))))))))))) (Fr_mono (fr_X12_token (res := q7) eq7) (fun a j h => by
      unfold Wr_X12_token at h
      unfold Wr_X12_memberLine
      rcases h with h | h | h | h
      · exact (Or.inl (by omega))
      · exact (Or.inr (Or.inr (Or.inr (Or.inr (Or.inr (Or.inl (by omega)))))))
      · exact (Or.inr (Or.inr (Or.inr (Or.inr (Or.inr (Or.inr (Or.inl (by omega))))))))
      · exact (Or.inr (Or.inr (Or.inr (Or.inr (Or.inr (Or.inr (Or.inr (Or.inl (by omega)))))))))))) (Fr_mono (fr_X12_number (res := q8) eq8) (fun a j h => by
      unfold Wr_X12_number at h
      unfold Wr_X12_memberLine
      rcases h with h | h | h | h | h | h | h
      · exact (Or.inl (by omega))
      · exact (Or.inr (Or.inr (Or.inl (by omega))))
      · exact (Or.inr (Or.inr (Or.inr (Or.inl (by omega)))))
      · exact (Or.inr (Or.inr (Or.inr (Or.inr (Or.inl (by omega))))))
      · exact (Or.inr (Or.inr (Or.inr (Or.inr (Or.inr (Or.inl (by omega)))))))
      · exact (Or.inr (Or.inr (Or.inr (Or.inr (Or.inr (Or.inr (Or.inl (by omega))))))))
      · exact (Or.inr (Or.inr (Or.inr (Or.inr (Or.inr (Or.inr (Or.inr (Or.inl (by omega)))))))))))) (show Wr_X12_memberLine _ _ from (Or.inr (Or.inr (Or.inr (Or.inr (Or.inr (Or.inr (Or.inr (Or.inr (by omega))))))))))) (Fr_mono (fr_X12_number (res := q11) eq11) (fun a j h => by
      unfold Wr_X12_number at h
      unfold Wr_X12_memberLine
      rcases h with h | h | h | h | h | h | h
      · exact (Or.inl (by omega))
      · exact (Or.inr (Or.inr (Or.inl (by omega))))
      · exact (Or.inr (Or.inr (Or.inr (Or.inl (by omega)))))
      · exact (Or.inr (Or.inr (Or.inr (Or.inr (Or.inl (by omega))))))
      · exact (Or.inr (Or.inr (Or.inr (Or.inr (Or.inr (Or.inl (by omega)))))))
      · exact (Or.inr (Or.inr (Or.inr (Or.inr (Or.inr (Or.inr (Or.inl (by omega))))))))
      · exact (Or.inr (Or.inr (Or.inr (Or.inr (Or.inr (Or.inr (Or.inr (Or.inl (by omega))))))))))))
          · have hF := (if_neg c12).symm.trans hF
            obtain ⟨b13, hF⟩ := inb_some hF
            obtain rfl := Option.some.inj hF
            exact (Fr_up (Fr_up (Fr_tr (Fr_up (Fr_tr (Fr_tr (Fr_up (Fr_tr Fr.rf (Fr_mono (fr_X12_token (res := q2) eq2) (fun a j h => by
      unfold Wr_X12_token at h
      unfold Wr_X12_memberLine
      rcases h with h | h | h | h
      · exact (Or.inl (by omega))
      · exact (Or.inr (Or.inr (Or.inr (Or.inr (Or.inr (Or.inl (by omega)))))))
      · exact (Or.inr (Or.inr (Or.inr (Or.inr (Or.inr (Or.inr (Or.inl (by omega))))))))
      · exact (Or.inr (Or.inr (Or.inr (Or.inr (Or.inr (Or.inr (Or.inr (Or.inl (by omega)))))))))))) (show Wr_X12_memberLine _ _ from (Or.inr (Or.inr (Or.inr (Or.inr (Or.inr (Or.inr (Or.inr (Or.inr (by omega))))))))))) (Fr_mono (fr_X12_token (res := q7) eq7) (fun a j h => by
      unfold Wr_X12_token at h
      unfold Wr_X12_memberLine
      rcases h with h | h | h | h
      · exact (Or.inl (by omega))
      · exact (Or.inr (Or.inr (Or.inr (Or.inr (Or.inr (Or.inl (by omega)))))))
      · exact (Or.inr (Or.inr (Or.inr (Or.inr (Or.inr (Or.inr (Or.inl (by omega))))))))
      · exact (Or.inr (Or.inr (Or.inr (Or.inr (Or.inr (Or.inr (Or.inr (Or.inl (by omega)))))))))))) (Fr_mono (fr_X12_number (res := q8) eq8) (fun a j h => by
      unfold Wr_X12_number at h
      unfold Wr_X12_memberLine
      rcases h with h | h | h | h | h | h | h
      · exact (Or.inl (by omega))
      · exact (Or.inr (Or.inr (Or.inl (by omega))))
      · exact (Or.inr (Or.inr (Or.inr (Or.inl (by omega)))))
      · exact (Or.inr (Or.inr (Or.inr (Or.inr (Or.inl (by omega))))))
      · exact (Or.inr (Or.inr (Or.inr (Or.inr (Or.inr (Or.inl (by omega)))))))
      · exact (Or.inr (Or.inr (Or.inr (Or.inr (Or.inr (Or.inr (Or.inl (by omega))))))))
      · exact (Or.inr (Or.inr (Or.inr (Or.inr (Or.inr (Or.inr (Or.inr (Or.inl (by omega)))))))))))) (show Wr_X12_memberLine _ _ from (Or.inr (Or.inr (Or.inr (Or.inr (Or.inr (Or.inr (Or.inr (Or.inr (by omega))))))))))) (Fr_mono (fr_X12_number (res := q11) eq11) (fun a j h => by
      unfold Wr_X12_number at h
      unfold Wr_X12_memberLine
      rcases h with h | h | h | h | h | h | h
      · exact (Or.inl (by omega))
      · exact (Or.inr (Or.inr (Or.inl (by omega))))
      · exact (Or.inr (Or.inr (Or.inr (Or.inl (by omega)))))
      · exact (Or.inr (Or.inr (Or.inr (Or.inr (Or.inl (by omega))))))
      · exact (Or.inr (Or.inr (Or.inr (Or.inr (Or.inr (Or.inl (by omega)))))))
      · exact (Or.inr (Or.inr (Or.inr (Or.inr (Or.inr (Or.inr (Or.inl (by omega))))))))
      · exact (Or.inr (Or.inr (Or.inr (Or.inr (Or.inr (Or.inr (Or.inr (Or.inl (by omega)))))))))))) (show Wr_X12_memberLine _ _ from (Or.inr (Or.inr (Or.inr (Or.inr (Or.inr (Or.inr (Or.inr (Or.inr (by omega))))))))))) (show Wr_X12_memberLine _ _ from (Or.inr (Or.inl (by omega)))))
      · have hF := (if_neg c5).symm.trans hF
        obtain ⟨q14, eq14, hF⟩ := bind_some' hF
        obtain rfl := Option.some.inj hF
        exact (Fr_tr (Fr_tr Fr.rf (Fr_mono (fr_X12_token (res := q2) eq2) (fun a j h => by
      unfold Wr_X12_token at h
      unfold Wr_X12_memberLine
      rcases h with h | h | h | h
      · exact (Or.inl (by omega))
      · exact (Or.inr (Or.inr (Or.inr (Or.inr (Or.inr (Or.inl (by omega)))))))
      · exact (Or.inr (Or.inr (Or.inr (Or.inr (Or.inr (Or.inr (Or.inl (by omega))))))))
      · exact (Or.inr (Or.inr (Or.inr (Or.inr (Or.inr (Or.inr (Or.inr (Or.inl (by omega)))))))))))) (Fr_mono (fr_X12_wrong (res := q14) eq14) (fun a j h => by
      unfold Wr_X12_wrong at h
      unfold Wr_X12_memberLine
      rcases h with h | h
      · exact (Or.inr (Or.inr (Or.inr (Or.inl (by omega)))))
      · exact (Or.inr (Or.inr (Or.inr (Or.inr (Or.inl (by omega)))))))))
    · have hF := (if_neg c3).symm.trans hF
      obtain ⟨q15, eq15, hF⟩ := bind_some' hF
      obtain rfl := Option.some.inj hF
      exact (Fr_tr (Fr_tr Fr.rf (Fr_mono (fr_X12_token (res := q2) eq2) (fun a j h => by
      unfold Wr_X12_token at h
      unfold Wr_X12_memberLine
      rcases h with h | h | h | h
      · exact (Or.inl (by omega))
      · exact (Or.inr (Or.inr (Or.inr (Or.inr (Or.inr (Or.inl (by omega)))))))
      · exact (Or.inr (Or.inr (Or.inr (Or.inr (Or.inr (Or.inr (Or.inl (by omega))))))))
      · exact (Or.inr (Or.inr (Or.inr (Or.inr (Or.inr (Or.inr (Or.inr (Or.inl (by omega)))))))))))) (Fr_mono (fr_X12_wrong (res := q15) eq15) (fun a j h => by
      unfold Wr_X12_wrong at h
      unfold Wr_X12_memberLine
      rcases h with h | h
      · exact (Or.inr (Or.inr (Or.inr (Or.inl (by omega)))))
      · exact (Or.inr (Or.inr (Or.inr (Or.inr (Or.inl (by omega)))))))))
def Wr_X12_ownsLine (a : Nat) (j : Int) : Prop := (a = 94 ∧ j = 10) ∨ (a = 94 ∧ j = 18) ∨ (a = 94 ∧ j = 22) ∨ (a = 94 ∧ j = 4) ∨ (a = 94 ∧ j = 5) ∨ (a = 94 ∧ j = 7) ∨ (a = 94 ∧ j = 8) ∨ (a = 94 ∧ j = 9) ∨ (a = 99)
theorem fr_X12_ownsLine {N : Nat}  {σ : Sto} {res : Int × Sto} (hF : F_X12_ownsLine N  σ = some res) : Fr (Wr_X12_ownsLine) σ res.2 := by
  unfold F_X12_ownsLine at hF
  by_cases c1 : (σ.1 94 18) = 16
  · have hF := (if_pos c1).symm.trans hF
    obtain ⟨q17, eq17, hF⟩ := bind_some' hF
    obtain rfl := Option.some.inj hF
    exact (Fr_tr Fr.rf (Fr_mono (fr_X12_wrong (res := q17) eq17) (fun a j h => by
      unfold Wr_X12_wrong at h
      unfold Wr_X12_ownsLine
      rcases h with h | h
      · exact (Or.inr (Or.inr (Or.inr (Or.inl (by omega)))))
      · exact (Or.inr (Or.inr (Or.inr (Or.inr (Or.inl (by omega)))))))))
  · have hF := (if_neg c1).symm.trans hF
    obtain ⟨q2, eq2, hF⟩ := bind_some' hF
    by_cases c3 : q2.1 = 0
    · have hF := (if_pos c3).symm.trans hF
      obtain rfl := Option.some.inj hF
      exact (Fr_tr Fr.rf (Fr_mono (fr_X12_memberRead (res := q2) eq2) (fun a j h => by
      unfold Wr_X12_memberRead at h
      unfold Wr_X12_ownsLine
      rcases h with h | h | h | h | h | h | h
      · exact (Or.inl (by omega))
      · exact (Or.inr (Or.inr (Or.inl (by omega))))
      · exact (Or.inr (Or.inr (Or.inr (Or.inl (by omega)))))
      · exact (Or.inr (Or.inr (Or.inr (Or.inr (Or.inl (by omega))))))
      · exact (Or.inr (Or.inr (Or.inr (Or.inr (Or.inr (Or.inl (by omega)))))))
      · exact (Or.inr (Or.inr (Or.inr (Or.inr (Or.inr (Or.inr (Or.inl (by omega))))))))
      · exact (Or.inr (Or.inr (Or.inr (Or.inr (Or.inr (Or.inr (Or.inr (Or.inl (by omega))))))))))))
    · have hF := (if_neg c3).symm.trans hF
      obtain ⟨b4, hF⟩ := inb_some hF
      obtain ⟨q5, eq5, hF⟩ := bind_some' hF
      by_cases c6 : q5.1 = 0
      · have hF := (if_pos c6).symm.trans hF
        obtain rfl := Option.some.inj hF
        exact (Fr_tr (Fr_up (Fr_tr Fr.rf (Fr_mono (fr_X12_memberRead (res := q2) eq2) (fun a j h => by
      unfold Wr_X12_memberRead at h
      unfold Wr_X12_ownsLine
      rcases h with h | h | h | h | h | h | h
      · exact (Or.inl (by omega))
      · exact (Or.inr (Or.inr (Or.inl (by omega))))
      · exact (Or.inr (Or.inr (Or.inr (Or.inl (by omega)))))
      · exact (Or.inr (Or.inr (Or.inr (Or.inr (Or.inl (by omega))))))
      · exact (Or.inr (Or.inr (Or.inr (Or.inr (Or.inr (Or.inl (by omega)))))))
      · exact (Or.inr (Or.inr (Or.inr (Or.inr (Or.inr (Or.inr (Or.inl (by omega))))))))
      · exact (Or.inr (Or.inr (Or.inr (Or.inr (Or.inr (Or.inr (Or.inr (Or.inl (by omega)))))))))))) (show Wr_X12_ownsLine _ _ from (Or.inr (Or.inr (Or.inr (Or.inr (Or.inr (Or.inr (Or.inr (Or.inr (by omega))))))))))) (Fr_mono (fr_X12_memberRead (res := q5) eq5) (fun a j h => by
      unfold Wr_X12_memberRead at h
      unfold Wr_X12_ownsLine
      rcases h with h | h | h | h | h | h | h
      · exact (Or.inl (by omega))
      · exact (Or.inr (Or.inr (Or.inl (by omega))))
      · exact (Or.inr (Or.inr (Or.inr (Or.inl (by omega)))))
      · exact (Or.inr (Or.inr (Or.inr (Or.inr (Or.inl (by omega))))))
      · exact (Or.inr (Or.inr (Or.inr (Or.inr (Or.inr (Or.inl (by omega)))))))
      · exact (Or.inr (Or.inr (Or.inr (Or.inr (Or.inr (Or.inr (Or.inl (by omega))))))))
      · exact (Or.inr (Or.inr (Or.inr (Or.inr (Or.inr (Or.inr (Or.inr (Or.inl (by omega))))))))))))
      · have hF := (if_neg c6).symm.trans hF
        by_cases c7 : (q5.2.1 99 (ja 64 (jm 4 (σ.1 94 18)))) < (q5.2.1 94 22)
        · have hF := (if_pos c7).symm.trans hF
          obtain ⟨b8, hF⟩ := inb_some hF
          obtain ⟨q9, eq9, hF⟩ := bind_some' hF
          obtain ⟨q10, eq10, hF⟩ := bind_some' hF
          by_cases c11 : q10.1 = 0
          · have hF := (if_pos c11).symm.trans hF
            obtain rfl := Option.some.inj hF
            exact (Fr_tr (Fr_tr (Fr_up (Fr_tr (Fr_up (Fr_tr Fr.rf (Fr_mono (fr_X12_memberRead (res := q2) eq2) (fun a j h => by
      unfold Wr_X12_memberRead at h
      unfold Wr_X12_ownsLine
      rcases h with h | h | h | h | h | h | h
      · exact (Or.inl (by omega))
      · exact (Or.inr (Or.inr (Or.inl (by omega))))
      · exact (Or.inr (Or.inr (Or.inr (Or.inl (by omega)))))
      · exact (Or.inr (Or.inr (Or.inr (Or.inr (Or.inl (by omega))))))
      · exact (Or.inr (Or.inr (Or.inr (Or.inr (Or.inr (Or.inl (by omega)))))))
      · exact (Or.inr (Or.inr (Or.inr (Or.inr (Or.inr (Or.inr (Or.inl (by omega))))))))
      · exact (Or.inr (Or.inr (Or.inr (Or.inr (Or.inr (Or.inr (Or.inr (Or.inl (by omega)))))))))))) (show Wr_X12_ownsLine _ _ from (Or.inr (Or.inr (Or.inr (Or.inr (Or.inr (Or.inr (Or.inr (Or.inr (by omega))))))))))) (Fr_mono (fr_X12_memberRead (res := q5) eq5) (fun a j h => by
      unfold Wr_X12_memberRead at h
      unfold Wr_X12_ownsLine
      rcases h with h | h | h | h | h | h | h
      · exact (Or.inl (by omega))
      · exact (Or.inr (Or.inr (Or.inl (by omega))))
      · exact (Or.inr (Or.inr (Or.inr (Or.inl (by omega)))))
      · exact (Or.inr (Or.inr (Or.inr (Or.inr (Or.inl (by omega))))))
      · exact (Or.inr (Or.inr (Or.inr (Or.inr (Or.inr (Or.inl (by omega)))))))
      · exact (Or.inr (Or.inr (Or.inr (Or.inr (Or.inr (Or.inr (Or.inl (by omega))))))))
      · exact (Or.inr (Or.inr (Or.inr (Or.inr (Or.inr (Or.inr (Or.inr (Or.inl (by omega)))))))))))) (show Wr_X12_ownsLine _ _ from (Or.inr (Or.inr (Or.inr (Or.inr (Or.inr (Or.inr (Or.inr (Or.inr (by omega))))))))))) (Fr_mono (fr_X12_token (res := q9) eq9) (fun a j h => by
      unfold Wr_X12_token at h
      unfold Wr_X12_ownsLine
      rcases h with h | h | h | h
      · exact (Or.inl (by omega))
      · exact (Or.inr (Or.inr (Or.inr (Or.inr (Or.inr (Or.inl (by omega)))))))
      · exact (Or.inr (Or.inr (Or.inr (Or.inr (Or.inr (Or.inr (Or.inl (by omega))))))))
      · exact (Or.inr (Or.inr (Or.inr (Or.inr (Or.inr (Or.inr (Or.inr (Or.inl (by omega)))))))))))) (Fr_mono (fr_X12_number (res := q10) eq10) (fun a j h => by
      unfold Wr_X12_number at h
      unfold Wr_X12_ownsLine
      rcases h with h | h | h | h | h | h | h
      · exact (Or.inl (by omega))
      · exact (Or.inr (Or.inr (Or.inl (by omega))))
      · exact (Or.inr (Or.inr (Or.inr (Or.inl (by omega)))))
      · exact (Or.inr (Or.inr (Or.inr (Or.inr (Or.inl (by omega))))))
      · exact (Or.inr (Or.inr (Or.inr (Or.inr (Or.inr (Or.inl (by omega)))))))
      · exact (Or.inr (Or.inr (Or.inr (Or.inr (Or.inr (Or.inr (Or.inl (by omega))))))))
      · exact (Or.inr (Or.inr (Or.inr (Or.inr (Or.inr (Or.inr (Or.inr (Or.inl (by omega))))))))))))
          · have hF := (if_neg c11).symm.trans hF
            obtain ⟨b12, hF⟩ := inb_some hF
            obtain ⟨q13, eq13, hF⟩ := bind_some' hF
            by_cases c14 : q13.1 = 0
            · have hF := (if_pos c14).symm.trans hF
              obtain rfl := Option.some.inj hF
              exact (Fr_tr (Fr_up (Fr_tr (Fr_tr (Fr_up (Fr_tr (Fr_up (Fr_tr Fr.rf (Fr_mono (fr_X12_memberRead (res := q2) eq2) (fun a j h => by
      unfold Wr_X12_memberRead at h
      unfold Wr_X12_ownsLine
      rcases h with h | h | h | h | h | h | h
      · exact (Or.inl (by omega))
      · exact (Or.inr (Or.inr (Or.inl (by omega))))
      · exact (Or.inr (Or.inr (Or.inr (Or.inl (by omega)))))
      · exact (Or.inr (Or.inr (Or.inr (Or.inr (Or.inl (by omega))))))
      · exact (Or.inr (Or.inr (Or.inr (Or.inr (Or.inr (Or.inl (by omega)))))))
      · exact (Or.inr (Or.inr (Or.inr (Or.inr (Or.inr (Or.inr (Or.inl (by omega))))))))
      · exact (Or.inr (Or.inr (Or.inr (Or.inr (Or.inr (Or.inr (Or.inr (Or.inl (by omega)))))))))))) (show Wr_X12_ownsLine _ _ from (Or.inr (Or.inr (Or.inr (Or.inr (Or.inr (Or.inr (Or.inr (Or.inr (by omega))))))))))) (Fr_mono (fr_X12_memberRead (res := q5) eq5) (fun a j h => by
      unfold Wr_X12_memberRead at h
      unfold Wr_X12_ownsLine
      rcases h with h | h | h | h | h | h | h
      · exact (Or.inl (by omega))
      · exact (Or.inr (Or.inr (Or.inl (by omega))))
      · exact (Or.inr (Or.inr (Or.inr (Or.inl (by omega)))))
      · exact (Or.inr (Or.inr (Or.inr (Or.inr (Or.inl (by omega))))))
      · exact (Or.inr (Or.inr (Or.inr (Or.inr (Or.inr (Or.inl (by omega)))))))
      · exact (Or.inr (Or.inr (Or.inr (Or.inr (Or.inr (Or.inr (Or.inl (by omega))))))))
      · exact (Or.inr (Or.inr (Or.inr (Or.inr (Or.inr (Or.inr (Or.inr (Or.inl (by omega)))))))))))) (show Wr_X12_ownsLine _ _ from (Or.inr (Or.inr (Or.inr (Or.inr (Or.inr (Or.inr (Or.inr (Or.inr (by omega))))))))))) (Fr_mono (fr_X12_token (res := q9) eq9) (fun a j h => by
      unfold Wr_X12_token at h
      unfold Wr_X12_ownsLine
      rcases h with h | h | h | h
      · exact (Or.inl (by omega))
      · exact (Or.inr (Or.inr (Or.inr (Or.inr (Or.inr (Or.inl (by omega)))))))
      · exact (Or.inr (Or.inr (Or.inr (Or.inr (Or.inr (Or.inr (Or.inl (by omega))))))))
      · exact (Or.inr (Or.inr (Or.inr (Or.inr (Or.inr (Or.inr (Or.inr (Or.inl (by omega)))))))))))) (Fr_mono (fr_X12_number (res := q10) eq10) (fun a j h => by
      unfold Wr_X12_number at h
      unfold Wr_X12_ownsLine
      rcases h with h | h | h | h | h | h | h
      · exact (Or.inl (by omega))
      · exact (Or.inr (Or.inr (Or.inl (by omega))))
      · exact (Or.inr (Or.inr (Or.inr (Or.inl (by omega)))))
      · exact (Or.inr (Or.inr (Or.inr (Or.inr (Or.inl (by omega))))))
      · exact (Or.inr (Or.inr (Or.inr (Or.inr (Or.inr (Or.inl (by omega)))))))
      · exact (Or.inr (Or.inr (Or.inr (Or.inr (Or.inr (Or.inr (Or.inl (by omega))))))))
      · exact (Or.inr (Or.inr (Or.inr (Or.inr (Or.inr (Or.inr (Or.inr (Or.inl (by omega)))))))))))) (show Wr_X12_ownsLine _ _ from (Or.inr (Or.inr (Or.inr (Or.inr (Or.inr (Or.inr (Or.inr (Or.inr (by omega))))))))))) (Fr_mono (fr_X12_number (res := q13) eq13) (fun a j h => by
      unfold Wr_X12_number at h
      unfold Wr_X12_ownsLine
      rcases h with h | h | h | h | h | h | h
      · exact (Or.inl (by omega))
      · exact (Or.inr (Or.inr (Or.inl (by omega))))
      · exact (Or.inr (Or.inr (Or.inr (Or.inl (by omega)))))
      · exact (Or.inr (Or.inr (Or.inr (Or.inr (Or.inl (by omega))))))
      · exact (Or.inr (Or.inr (Or.inr (Or.inr (Or.inr (Or.inl (by omega)))))))
      · exact (Or.inr (Or.inr (Or.inr (Or.inr (Or.inr (Or.inr (Or.inl (by omega))))))))
      · exact (Or.inr (Or.inr (Or.inr (Or.inr (Or.inr (Or.inr (Or.inr (Or.inl (by omega))))))))))))
            · have hF := (if_neg c14).symm.trans hF
              obtain ⟨b15, hF⟩ := inb_some hF
              obtain rfl := Option.some.inj hF
              exact (Fr_up (Fr_up (Fr_tr (Fr_up (Fr_tr (Fr_tr (Fr_up (Fr_tr (Fr_up (Fr_tr Fr.rf (Fr_mono (fr_X12_memberRead (res := q2) eq2) (fun a j h => by
      unfold Wr_X12_memberRead at h
      unfold Wr_X12_ownsLine
      rcases h with h | h | h | h | h | h | h
      · exact (Or.inl (by omega))
      · exact (Or.inr (Or.inr (Or.inl (by omega))))
      · exact (Or.inr (Or.inr (Or.inr (Or.inl (by omega)))))
      · exact (Or.inr (Or.inr (Or.inr (Or.inr (Or.inl (by omega))))))
      · exact (Or.inr (Or.inr (Or.inr (Or.inr (Or.inr (Or.inl (by omega)))))))
      · exact (Or.inr (Or.inr (Or.inr (Or.inr (Or.inr (Or.inr (Or.inl (by omega))))))))
      · exact (Or.inr (Or.inr (Or.inr (Or.inr (Or.inr (Or.inr (Or.inr (Or.inl (by omega)))))))))))) (show Wr_X12_ownsLine _ _ from (Or.inr (Or.inr (Or.inr (Or.inr (Or.inr (Or.inr (Or.inr (Or.inr (by omega))))))))))) (Fr_mono (fr_X12_memberRead (res := q5) eq5) (fun a j h => by
      unfold Wr_X12_memberRead at h
      unfold Wr_X12_ownsLine
      rcases h with h | h | h | h | h | h | h
      · exact (Or.inl (by omega))
      · exact (Or.inr (Or.inr (Or.inl (by omega))))
      · exact (Or.inr (Or.inr (Or.inr (Or.inl (by omega)))))
      · exact (Or.inr (Or.inr (Or.inr (Or.inr (Or.inl (by omega))))))
      · exact (Or.inr (Or.inr (Or.inr (Or.inr (Or.inr (Or.inl (by omega)))))))
      · exact (Or.inr (Or.inr (Or.inr (Or.inr (Or.inr (Or.inr (Or.inl (by omega))))))))
      · exact (Or.inr (Or.inr (Or.inr (Or.inr (Or.inr (Or.inr (Or.inr (Or.inl (by omega)))))))))))) (show Wr_X12_ownsLine _ _ from (Or.inr (Or.inr (Or.inr (Or.inr (Or.inr (Or.inr (Or.inr (Or.inr (by omega))))))))))) (Fr_mono (fr_X12_token (res := q9) eq9) (fun a j h => by
      unfold Wr_X12_token at h
      unfold Wr_X12_ownsLine
      rcases h with h | h | h | h
      · exact (Or.inl (by omega))
      · exact (Or.inr (Or.inr (Or.inr (Or.inr (Or.inr (Or.inl (by omega)))))))
      · exact (Or.inr (Or.inr (Or.inr (Or.inr (Or.inr (Or.inr (Or.inl (by omega))))))))
      · exact (Or.inr (Or.inr (Or.inr (Or.inr (Or.inr (Or.inr (Or.inr (Or.inl (by omega)))))))))))) (Fr_mono (fr_X12_number (res := q10) eq10) (fun a j h => by
      unfold Wr_X12_number at h
      unfold Wr_X12_ownsLine
      rcases h with h | h | h | h | h | h | h
      · exact (Or.inl (by omega))
      · exact (Or.inr (Or.inr (Or.inl (by omega))))
      · exact (Or.inr (Or.inr (Or.inr (Or.inl (by omega)))))
      · exact (Or.inr (Or.inr (Or.inr (Or.inr (Or.inl (by omega))))))
      · exact (Or.inr (Or.inr (Or.inr (Or.inr (Or.inr (Or.inl (by omega)))))))
      · exact (Or.inr (Or.inr (Or.inr (Or.inr (Or.inr (Or.inr (Or.inl (by omega))))))))
      · exact (Or.inr (Or.inr (Or.inr (Or.inr (Or.inr (Or.inr (Or.inr (Or.inl (by omega)))))))))))) (show Wr_X12_ownsLine _ _ from (Or.inr (Or.inr (Or.inr (Or.inr (Or.inr (Or.inr (Or.inr (Or.inr (by omega))))))))))) (Fr_mono (fr_X12_number (res := q13) eq13) (fun a j h => by
      unfold Wr_X12_number at h
      unfold Wr_X12_ownsLine
      rcases h with h | h | h | h | h | h | h
      · exact (Or.inl (by omega))
      · exact (Or.inr (Or.inr (Or.inl (by omega))))
      · exact (Or.inr (Or.inr (Or.inr (Or.inl (by omega)))))
      · exact (Or.inr (Or.inr (Or.inr (Or.inr (Or.inl (by omega))))))
      · exact (Or.inr (Or.inr (Or.inr (Or.inr (Or.inr (Or.inl (by omega)))))))
      · exact (Or.inr (Or.inr (Or.inr (Or.inr (Or.inr (Or.inr (Or.inl (by omega))))))))
      · exact (Or.inr (Or.inr (Or.inr (Or.inr (Or.inr (Or.inr (Or.inr (Or.inl (by omega)))))))))))) (show Wr_X12_ownsLine _ _ from (Or.inr (Or.inr (Or.inr (Or.inr (Or.inr (Or.inr (Or.inr (Or.inr (by omega))))))))))) (show Wr_X12_ownsLine _ _ from (Or.inr (Or.inl (by omega)))))
        · have hF := (if_neg c7).symm.trans hF
          obtain ⟨q16, eq16, hF⟩ := bind_some' hF
          obtain rfl := Option.some.inj hF
          exact (Fr_tr (Fr_tr (Fr_up (Fr_tr Fr.rf (Fr_mono (fr_X12_memberRead (res := q2) eq2) (fun a j h => by
      unfold Wr_X12_memberRead at h
      unfold Wr_X12_ownsLine
      rcases h with h | h | h | h | h | h | h
      · exact (Or.inl (by omega))
      · exact (Or.inr (Or.inr (Or.inl (by omega))))
      · exact (Or.inr (Or.inr (Or.inr (Or.inl (by omega)))))
      · exact (Or.inr (Or.inr (Or.inr (Or.inr (Or.inl (by omega))))))
      · exact (Or.inr (Or.inr (Or.inr (Or.inr (Or.inr (Or.inl (by omega)))))))
      · exact (Or.inr (Or.inr (Or.inr (Or.inr (Or.inr (Or.inr (Or.inl (by omega))))))))
      · exact (Or.inr (Or.inr (Or.inr (Or.inr (Or.inr (Or.inr (Or.inr (Or.inl (by omega)))))))))))) (show Wr_X12_ownsLine _ _ from (Or.inr (Or.inr (Or.inr (Or.inr (Or.inr (Or.inr (Or.inr (Or.inr (by omega))))))))))) (Fr_mono (fr_X12_memberRead (res := q5) eq5) (fun a j h => by
      unfold Wr_X12_memberRead at h
      unfold Wr_X12_ownsLine
      rcases h with h | h | h | h | h | h | h
      · exact (Or.inl (by omega))
      · exact (Or.inr (Or.inr (Or.inl (by omega))))
      · exact (Or.inr (Or.inr (Or.inr (Or.inl (by omega)))))
      · exact (Or.inr (Or.inr (Or.inr (Or.inr (Or.inl (by omega))))))
      · exact (Or.inr (Or.inr (Or.inr (Or.inr (Or.inr (Or.inl (by omega)))))))
      · exact (Or.inr (Or.inr (Or.inr (Or.inr (Or.inr (Or.inr (Or.inl (by omega))))))))
      · exact (Or.inr (Or.inr (Or.inr (Or.inr (Or.inr (Or.inr (Or.inr (Or.inl (by omega)))))))))))) (Fr_mono (fr_X12_wrong (res := q16) eq16) (fun a j h => by
      unfold Wr_X12_wrong at h
      unfold Wr_X12_ownsLine
      rcases h with h | h
      · exact (Or.inr (Or.inr (Or.inr (Or.inl (by omega)))))
      · exact (Or.inr (Or.inr (Or.inr (Or.inr (Or.inl (by omega)))))))))
def Wr_X12_periodLine (a : Nat) (j : Int) : Prop := (a = 94 ∧ j = 10) ∨ (a = 94 ∧ j = 15) ∨ (a = 94 ∧ j = 22) ∨ (a = 94 ∧ j = 4) ∨ (a = 94 ∧ j = 5) ∨ (a = 94 ∧ j = 7) ∨ (a = 94 ∧ j = 8) ∨ (a = 94 ∧ j = 9) ∨ (a = 98)
theorem fr_X12_periodLine_J183 {N : Nat}   {v1 : Int} {σ : Sto} {res : Int × Sto} (hF : F_X12_periodLine_J183 N  v1 σ = some res) : Fr (Wr_X12_periodLine) σ res.2 := by
  unfold F_X12_periodLine_J183 at hF
  obtain ⟨b12, hF⟩ := inb_some hF
  obtain ⟨q13, eq13, hF⟩ := bind_some' hF
  obtain ⟨q14, eq14, hF⟩ := bind_some' hF
  by_cases c15 : q14.1 = 0
  · have hF := (if_pos c15).symm.trans hF
    obtain rfl := Option.some.inj hF
    exact (Fr_tr (Fr_tr (Fr_up Fr.rf (show Wr_X12_periodLine _ _ from (Or.inr (Or.inr (Or.inr (Or.inr (Or.inr (Or.inr (Or.inr (Or.inr (by omega))))))))))) (Fr_mono (fr_X12_token (res := q13) eq13) (fun a j h => by
      unfold Wr_X12_token at h
      unfold Wr_X12_periodLine
      rcases h with h | h | h | h
      · exact (Or.inl (by omega))
      · exact (Or.inr (Or.inr (Or.inr (Or.inr (Or.inr (Or.inl (by omega)))))))
      · exact (Or.inr (Or.inr (Or.inr (Or.inr (Or.inr (Or.inr (Or.inl (by omega))))))))
      · exact (Or.inr (Or.inr (Or.inr (Or.inr (Or.inr (Or.inr (Or.inr (Or.inl (by omega)))))))))))) (Fr_mono (fr_X12_signed (res := q14) eq14) (fun a j h => by
      unfold Wr_X12_signed at h
      unfold Wr_X12_periodLine
      rcases h with h | h | h | h | h | h | h
      · exact (Or.inl (by omega))
      · exact (Or.inr (Or.inr (Or.inl (by omega))))
      · exact (Or.inr (Or.inr (Or.inr (Or.inl (by omega)))))
      · exact (Or.inr (Or.inr (Or.inr (Or.inr (Or.inl (by omega))))))
      · exact (Or.inr (Or.inr (Or.inr (Or.inr (Or.inr (Or.inl (by omega)))))))
      · exact (Or.inr (Or.inr (Or.inr (Or.inr (Or.inr (Or.inr (Or.inl (by omega))))))))
      · exact (Or.inr (Or.inr (Or.inr (Or.inr (Or.inr (Or.inr (Or.inr (Or.inl (by omega))))))))))))
  · have hF := (if_neg c15).symm.trans hF
    obtain ⟨b16, hF⟩ := inb_some hF
    obtain rfl := Option.some.inj hF
    exact (Fr_up (Fr_up (Fr_tr (Fr_tr (Fr_up Fr.rf (show Wr_X12_periodLine _ _ from (Or.inr (Or.inr (Or.inr (Or.inr (Or.inr (Or.inr (Or.inr (Or.inr (by omega))))))))))) (Fr_mono (fr_X12_token (res := q13) eq13) (fun a j h => by
      unfold Wr_X12_token at h
      unfold Wr_X12_periodLine
      rcases h with h | h | h | h
      · exact (Or.inl (by omega))
      · exact (Or.inr (Or.inr (Or.inr (Or.inr (Or.inr (Or.inl (by omega)))))))
      · exact (Or.inr (Or.inr (Or.inr (Or.inr (Or.inr (Or.inr (Or.inl (by omega))))))))
      · exact (Or.inr (Or.inr (Or.inr (Or.inr (Or.inr (Or.inr (Or.inr (Or.inl (by omega)))))))))))) (Fr_mono (fr_X12_signed (res := q14) eq14) (fun a j h => by
      unfold Wr_X12_signed at h
      unfold Wr_X12_periodLine
      rcases h with h | h | h | h | h | h | h
      · exact (Or.inl (by omega))
      · exact (Or.inr (Or.inr (Or.inl (by omega))))
      · exact (Or.inr (Or.inr (Or.inr (Or.inl (by omega)))))
      · exact (Or.inr (Or.inr (Or.inr (Or.inr (Or.inl (by omega))))))
      · exact (Or.inr (Or.inr (Or.inr (Or.inr (Or.inr (Or.inl (by omega)))))))
      · exact (Or.inr (Or.inr (Or.inr (Or.inr (Or.inr (Or.inr (Or.inl (by omega))))))))
      · exact (Or.inr (Or.inr (Or.inr (Or.inr (Or.inr (Or.inr (Or.inr (Or.inl (by omega)))))))))))) (show Wr_X12_periodLine _ _ from (Or.inr (Or.inr (Or.inr (Or.inr (Or.inr (Or.inr (Or.inr (Or.inr (by omega))))))))))) (show Wr_X12_periodLine _ _ from (Or.inr (Or.inl (by omega)))))
theorem fr_X12_periodLine_J177 {N : Nat}  {nx117 : (Int) → Option (Int × Sto)} {v1 : Int} {v2 : Int} {σ : Sto} {res : Int × Sto} (hnx117 : ∀ q, nx117 q = some res → Fr (Wr_X12_periodLine) σ res.2) (hF : F_X12_periodLine_J177 N nx117 v1 v2 σ = some res) : Fr (Wr_X12_periodLine) σ res.2 := by
  unfold F_X12_periodLine_J177 at hF
  exact hnx117 _ hF
theorem fr_X12_periodLine_J171 {N : Nat}    {σ : Sto} {res : Int × Sto} (hF : F_X12_periodLine_J171 N   σ = some res) : Fr (Wr_X12_periodLine) σ res.2 := by
  unfold F_X12_periodLine_J171 at hF
  obtain ⟨q23, eq23, hF⟩ := bind_some' hF
  obtain rfl := Option.some.inj hF
  exact (Fr_tr Fr.rf (Fr_mono (fr_X12_wrong (res := q23) eq23) (fun a j h => by
      unfold Wr_X12_wrong at h
      unfold Wr_X12_periodLine
      rcases h with h | h
      · exact (Or.inr (Or.inr (Or.inr (Or.inl (by omega)))))
      · exact (Or.inr (Or.inr (Or.inr (Or.inr (Or.inl (by omega)))))))))
theorem fr_X12_periodLine_B117 {N : Nat}  {nx117 : (Int) → Option (Int × Sto)} {v1 : Int} {v2 : Int} {σ : Sto} {res : Int × Sto} (hnx117 : ∀ q, nx117 q = some res → Fr (Wr_X12_periodLine) σ res.2) (hF : F_X12_periodLine_B117 N nx117 v1 v2 σ = some res) : Fr (Wr_X12_periodLine) σ res.2 := by
  unfold F_X12_periodLine_B117 at hF
  by_cases c17 : v1 ≤ v2
  · have hF := (if_pos c17).symm.trans hF
    exact fr_X12_periodLine_J183  hF
  · have hF := (if_neg c17).symm.trans hF
    obtain ⟨b18, hF⟩ := inb_some hF
    obtain ⟨b19, hF⟩ := inb_some hF
    by_cases c20 : (σ.1 98 v2) = (σ.1 98 v1)
    · have hF := (if_pos c20).symm.trans hF
      obtain ⟨b21, hF⟩ := inb_some hF
      by_cases c22 : (σ.1 94 9) < (σ.1 98 (ja v2 1))
      · have hF := (if_pos c22).symm.trans hF
        exact fr_X12_periodLine_J177 hnx117 hF
      · have hF := (if_neg c22).symm.trans hF
        obtain ⟨b24, hF⟩ := inb_some hF
        obtain ⟨b25, hF⟩ := inb_some hF
        by_cases c26 : (σ.1 98 (ja v2 2)) < (σ.1 98 (ja v1 1))
        · have hF := (if_pos c26).symm.trans hF
          exact fr_X12_periodLine_J177 hnx117 hF
        · have hF := (if_neg c26).symm.trans hF
          exact fr_X12_periodLine_J171  hF
    · have hF := (if_neg c20).symm.trans hF
      exact fr_X12_periodLine_J177 hnx117 hF
theorem fr_X12_periodLine {N : Nat}  {σ : Sto} {res : Int × Sto} (hF : F_X12_periodLine N  σ = some res) : Fr (Wr_X12_periodLine) σ res.2 := by
  unfold F_X12_periodLine at hF
  by_cases c1 : (σ.1 94 15) = 12
  · have hF := (if_pos c1).symm.trans hF
    obtain ⟨q29, eq29, hF⟩ := bind_some' hF
    obtain rfl := Option.some.inj hF
    exact (Fr_tr Fr.rf (Fr_mono (fr_X12_wrong (res := q29) eq29) (fun a j h => by
      unfold Wr_X12_wrong at h
      unfold Wr_X12_periodLine
      rcases h with h | h
      · exact (Or.inr (Or.inr (Or.inr (Or.inl (by omega)))))
      · exact (Or.inr (Or.inr (Or.inr (Or.inr (Or.inl (by omega)))))))))
  · have hF := (if_neg c1).symm.trans hF
    obtain ⟨q2, eq2, hF⟩ := bind_some' hF
    by_cases c3 : q2.1 = 0
    · have hF := (if_pos c3).symm.trans hF
      obtain rfl := Option.some.inj hF
      exact (Fr_tr Fr.rf (Fr_mono (fr_X12_memberRead (res := q2) eq2) (fun a j h => by
      unfold Wr_X12_memberRead at h
      unfold Wr_X12_periodLine
      rcases h with h | h | h | h | h | h | h
      · exact (Or.inl (by omega))
      · exact (Or.inr (Or.inr (Or.inl (by omega))))
      · exact (Or.inr (Or.inr (Or.inr (Or.inl (by omega)))))
      · exact (Or.inr (Or.inr (Or.inr (Or.inr (Or.inl (by omega))))))
      · exact (Or.inr (Or.inr (Or.inr (Or.inr (Or.inr (Or.inl (by omega)))))))
      · exact (Or.inr (Or.inr (Or.inr (Or.inr (Or.inr (Or.inr (Or.inl (by omega))))))))
      · exact (Or.inr (Or.inr (Or.inr (Or.inr (Or.inr (Or.inr (Or.inr (Or.inl (by omega))))))))))))
    · have hF := (if_neg c3).symm.trans hF
      obtain ⟨b4, hF⟩ := inb_some hF
      obtain ⟨q5, eq5, hF⟩ := bind_some' hF
      obtain ⟨q6, eq6, hF⟩ := bind_some' hF
      by_cases c7 : q6.1 = 0
      · have hF := (if_pos c7).symm.trans hF
        obtain rfl := Option.some.inj hF
        exact (Fr_tr (Fr_tr (Fr_up (Fr_tr Fr.rf (Fr_mono (fr_X12_memberRead (res := q2) eq2) (fun a j h => by
      unfold Wr_X12_memberRead at h
      unfold Wr_X12_periodLine
      rcases h with h | h | h | h | h | h | h
      · exact (Or.inl (by omega))
      · exact (Or.inr (Or.inr (Or.inl (by omega))))
      · exact (Or.inr (Or.inr (Or.inr (Or.inl (by omega)))))
      · exact (Or.inr (Or.inr (Or.inr (Or.inr (Or.inl (by omega))))))
      · exact (Or.inr (Or.inr (Or.inr (Or.inr (Or.inr (Or.inl (by omega)))))))
      · exact (Or.inr (Or.inr (Or.inr (Or.inr (Or.inr (Or.inr (Or.inl (by omega))))))))
      · exact (Or.inr (Or.inr (Or.inr (Or.inr (Or.inr (Or.inr (Or.inr (Or.inl (by omega)))))))))))) (show Wr_X12_periodLine _ _ from (Or.inr (Or.inr (Or.inr (Or.inr (Or.inr (Or.inr (Or.inr (Or.inr (by omega))))))))))) (Fr_mono (fr_X12_token (res := q5) eq5) (fun a j h => by
      unfold Wr_X12_token at h
      unfold Wr_X12_periodLine
      rcases h with h | h | h | h
      · exact (Or.inl (by omega))
      · exact (Or.inr (Or.inr (Or.inr (Or.inr (Or.inr (Or.inl (by omega)))))))
      · exact (Or.inr (Or.inr (Or.inr (Or.inr (Or.inr (Or.inr (Or.inl (by omega))))))))
      · exact (Or.inr (Or.inr (Or.inr (Or.inr (Or.inr (Or.inr (Or.inr (Or.inl (by omega)))))))))))) (Fr_mono (fr_X12_number (res := q6) eq6) (fun a j h => by
      unfold Wr_X12_number at h
      unfold Wr_X12_periodLine
      rcases h with h | h | h | h | h | h | h
      · exact (Or.inl (by omega))
      · exact (Or.inr (Or.inr (Or.inl (by omega))))
      · exact (Or.inr (Or.inr (Or.inr (Or.inl (by omega)))))
      · exact (Or.inr (Or.inr (Or.inr (Or.inr (Or.inl (by omega))))))
      · exact (Or.inr (Or.inr (Or.inr (Or.inr (Or.inr (Or.inl (by omega)))))))
      · exact (Or.inr (Or.inr (Or.inr (Or.inr (Or.inr (Or.inr (Or.inl (by omega))))))))
      · exact (Or.inr (Or.inr (Or.inr (Or.inr (Or.inr (Or.inr (Or.inr (Or.inl (by omega))))))))))))
      · have hF := (if_neg c7).symm.trans hF
        obtain ⟨b8, hF⟩ := inb_some hF
        by_cases c9 : ((upI q6.2 98 (ja (ja 48 (jm 4 (σ.1 94 15))) 1) (q6.2.1 94 22)).1 94 8) = 3
        · have hF := (if_pos c9).symm.trans hF
          obtain ⟨q10, eq10, hF⟩ := bind_some' hF
          by_cases c11 : q10 = 0
          · have hF := (if_pos c11).symm.trans hF
            obtain ⟨q27, eq27, hF⟩ := bind_some' hF
            obtain rfl := Option.some.inj hF
            exact (Fr_tr (Fr_up (Fr_tr (Fr_tr (Fr_up (Fr_tr Fr.rf (Fr_mono (fr_X12_memberRead (res := q2) eq2) (fun a j h => by
      unfold Wr_X12_memberRead at h
      unfold Wr_X12_periodLine
      rcases h with h | h | h | h | h | h | h
      · exact (Or.inl (by omega))
      · exact (Or.inr (Or.inr (Or.inl (by omega))))
      · exact (Or.inr (Or.inr (Or.inr (Or.inl (by omega)))))
      · exact (Or.inr (Or.inr (Or.inr (Or.inr (Or.inl (by omega))))))
      · exact (Or.inr (Or.inr (Or.inr (Or.inr (Or.inr (Or.inl (by omega)))))))
      · exact (Or.inr (Or.inr (Or.inr (Or.inr (Or.inr (Or.inr (Or.inl (by omega))))))))
      · exact (Or.inr (Or.inr (Or.inr (Or.inr (Or.inr (Or.inr (Or.inr (Or.inl (by omega)))))))))))) (show Wr_X12_periodLine _ _ from (Or.inr (Or.inr (Or.inr (Or.inr (Or.inr (Or.inr (Or.inr (Or.inr (by omega))))))))))) (Fr_mono (fr_X12_token (res := q5) eq5) (fun a j h => by
      unfold Wr_X12_token at h
      unfold Wr_X12_periodLine
      rcases h with h | h | h | h
      · exact (Or.inl (by omega))
      · exact (Or.inr (Or.inr (Or.inr (Or.inr (Or.inr (Or.inl (by omega)))))))
      · exact (Or.inr (Or.inr (Or.inr (Or.inr (Or.inr (Or.inr (Or.inl (by omega))))))))
      · exact (Or.inr (Or.inr (Or.inr (Or.inr (Or.inr (Or.inr (Or.inr (Or.inl (by omega)))))))))))) (Fr_mono (fr_X12_number (res := q6) eq6) (fun a j h => by
      unfold Wr_X12_number at h
      unfold Wr_X12_periodLine
      rcases h with h | h | h | h | h | h | h
      · exact (Or.inl (by omega))
      · exact (Or.inr (Or.inr (Or.inl (by omega))))
      · exact (Or.inr (Or.inr (Or.inr (Or.inl (by omega)))))
      · exact (Or.inr (Or.inr (Or.inr (Or.inr (Or.inl (by omega))))))
      · exact (Or.inr (Or.inr (Or.inr (Or.inr (Or.inr (Or.inl (by omega)))))))
      · exact (Or.inr (Or.inr (Or.inr (Or.inr (Or.inr (Or.inr (Or.inl (by omega))))))))
      · exact (Or.inr (Or.inr (Or.inr (Or.inr (Or.inr (Or.inr (Or.inr (Or.inl (by omega)))))))))))) (show Wr_X12_periodLine _ _ from (Or.inr (Or.inr (Or.inr (Or.inr (Or.inr (Or.inr (Or.inr (Or.inr (by omega))))))))))) (Fr_mono (fr_X12_wrong (res := q27) eq27) (fun a j h => by
      unfold Wr_X12_wrong at h
      unfold Wr_X12_periodLine
      rcases h with h | h
      · exact (Or.inr (Or.inr (Or.inr (Or.inl (by omega)))))
      · exact (Or.inr (Or.inr (Or.inr (Or.inr (Or.inl (by omega)))))))))
          · have hF := (if_neg c11).symm.trans hF
            exact Fr_tr (Fr_up (Fr_tr (Fr_tr (Fr_up (Fr_tr Fr.rf (Fr_mono (fr_X12_memberRead (res := q2) eq2) (fun a j h => by
      unfold Wr_X12_memberRead at h
      unfold Wr_X12_periodLine
      rcases h with h | h | h | h | h | h | h
      · exact (Or.inl (by omega))
      · exact (Or.inr (Or.inr (Or.inl (by omega))))
      · exact (Or.inr (Or.inr (Or.inr (Or.inl (by omega)))))
      · exact (Or.inr (Or.inr (Or.inr (Or.inr (Or.inl (by omega))))))
      · exact (Or.inr (Or.inr (Or.inr (Or.inr (Or.inr (Or.inl (by omega)))))))
      · exact (Or.inr (Or.inr (Or.inr (Or.inr (Or.inr (Or.inr (Or.inl (by omega))))))))
      · exact (Or.inr (Or.inr (Or.inr (Or.inr (Or.inr (Or.inr (Or.inr (Or.inl (by omega)))))))))))) (show Wr_X12_periodLine _ _ from (Or.inr (Or.inr (Or.inr (Or.inr (Or.inr (Or.inr (Or.inr (Or.inr (by omega))))))))))) (Fr_mono (fr_X12_token (res := q5) eq5) (fun a j h => by
      unfold Wr_X12_token at h
      unfold Wr_X12_periodLine
      rcases h with h | h | h | h
      · exact (Or.inl (by omega))
      · exact (Or.inr (Or.inr (Or.inr (Or.inr (Or.inr (Or.inl (by omega)))))))
      · exact (Or.inr (Or.inr (Or.inr (Or.inr (Or.inr (Or.inr (Or.inl (by omega))))))))
      · exact (Or.inr (Or.inr (Or.inr (Or.inr (Or.inr (Or.inr (Or.inr (Or.inl (by omega)))))))))))) (Fr_mono (fr_X12_number (res := q6) eq6) (fun a j h => by
      unfold Wr_X12_number at h
      unfold Wr_X12_periodLine
      rcases h with h | h | h | h | h | h | h
      · exact (Or.inl (by omega))
      · exact (Or.inr (Or.inr (Or.inl (by omega))))
      · exact (Or.inr (Or.inr (Or.inr (Or.inl (by omega)))))
      · exact (Or.inr (Or.inr (Or.inr (Or.inr (Or.inl (by omega))))))
      · exact (Or.inr (Or.inr (Or.inr (Or.inr (Or.inr (Or.inl (by omega)))))))
      · exact (Or.inr (Or.inr (Or.inr (Or.inr (Or.inr (Or.inr (Or.inl (by omega))))))))
      · exact (Or.inr (Or.inr (Or.inr (Or.inr (Or.inr (Or.inr (Or.inr (Or.inl (by omega)))))))))))) (show Wr_X12_periodLine _ _ from (Or.inr (Or.inr (Or.inr (Or.inr (Or.inr (Or.inr (Or.inr (Or.inr (by omega))))))))))) (loopK_ind (res := res) (P := fun (q : Int) => Fr (Wr_X12_periodLine) (upI q6.2 98 (ja (ja 48 (jm 4 (σ.1 94 15))) 1) (q6.2.1 94 22)) res.2) (fun nx q hn hF => fr_X12_periodLine_B117 hn hF) N 48 hF)
        · have hF := (if_neg c9).symm.trans hF
          obtain ⟨q28, eq28, hF⟩ := bind_some' hF
          obtain rfl := Option.some.inj hF
          exact (Fr_tr (Fr_up (Fr_tr (Fr_tr (Fr_up (Fr_tr Fr.rf (Fr_mono (fr_X12_memberRead (res := q2) eq2) (fun a j h => by
      unfold Wr_X12_memberRead at h
      unfold Wr_X12_periodLine
      rcases h with h | h | h | h | h | h | h
      · exact (Or.inl (by omega))
      · exact (Or.inr (Or.inr (Or.inl (by omega))))
      · exact (Or.inr (Or.inr (Or.inr (Or.inl (by omega)))))
      · exact (Or.inr (Or.inr (Or.inr (Or.inr (Or.inl (by omega))))))
      · exact (Or.inr (Or.inr (Or.inr (Or.inr (Or.inr (Or.inl (by omega)))))))
      · exact (Or.inr (Or.inr (Or.inr (Or.inr (Or.inr (Or.inr (Or.inl (by omega))))))))
      · exact (Or.inr (Or.inr (Or.inr (Or.inr (Or.inr (Or.inr (Or.inr (Or.inl (by omega)))))))))))) (show Wr_X12_periodLine _ _ from (Or.inr (Or.inr (Or.inr (Or.inr (Or.inr (Or.inr (Or.inr (Or.inr (by omega))))))))))) (Fr_mono (fr_X12_token (res := q5) eq5) (fun a j h => by
      unfold Wr_X12_token at h
      unfold Wr_X12_periodLine
      rcases h with h | h | h | h
      · exact (Or.inl (by omega))
      · exact (Or.inr (Or.inr (Or.inr (Or.inr (Or.inr (Or.inl (by omega)))))))
      · exact (Or.inr (Or.inr (Or.inr (Or.inr (Or.inr (Or.inr (Or.inl (by omega))))))))
      · exact (Or.inr (Or.inr (Or.inr (Or.inr (Or.inr (Or.inr (Or.inr (Or.inl (by omega)))))))))))) (Fr_mono (fr_X12_number (res := q6) eq6) (fun a j h => by
      unfold Wr_X12_number at h
      unfold Wr_X12_periodLine
      rcases h with h | h | h | h | h | h | h
      · exact (Or.inl (by omega))
      · exact (Or.inr (Or.inr (Or.inl (by omega))))
      · exact (Or.inr (Or.inr (Or.inr (Or.inl (by omega)))))
      · exact (Or.inr (Or.inr (Or.inr (Or.inr (Or.inl (by omega))))))
      · exact (Or.inr (Or.inr (Or.inr (Or.inr (Or.inr (Or.inl (by omega)))))))
      · exact (Or.inr (Or.inr (Or.inr (Or.inr (Or.inr (Or.inr (Or.inl (by omega))))))))
      · exact (Or.inr (Or.inr (Or.inr (Or.inr (Or.inr (Or.inr (Or.inr (Or.inl (by omega)))))))))))) (show Wr_X12_periodLine _ _ from (Or.inr (Or.inr (Or.inr (Or.inr (Or.inr (Or.inr (Or.inr (Or.inr (by omega))))))))))) (Fr_mono (fr_X12_wrong (res := q28) eq28) (fun a j h => by
      unfold Wr_X12_wrong at h
      unfold Wr_X12_periodLine
      rcases h with h | h
      · exact (Or.inr (Or.inr (Or.inr (Or.inl (by omega)))))
      · exact (Or.inr (Or.inr (Or.inr (Or.inr (Or.inl (by omega)))))))))
def Wr_X12_wordLine (a : Nat) (j : Int) : Prop := (a = 94 ∧ j = 10) ∨ (a = 94 ∧ j = 21) ∨ (a = 94 ∧ j = 22) ∨ (a = 94 ∧ j = 4) ∨ (a = 94 ∧ j = 5) ∨ (a = 94 ∧ j = 7) ∨ (a = 94 ∧ j = 8) ∨ (a = 94 ∧ j = 9) ∨ (a = 100)
theorem fr_X12_wordLine_J137 {N : Nat}   {t1 : Int} {σ : Sto} {res : Int × Sto} (hF : F_X12_wordLine_J137 N  t1 σ = some res) : Fr (Wr_X12_wordLine) σ res.2 := by
  unfold F_X12_wordLine_J137 at hF
  obtain ⟨b2, hF⟩ := inb_some hF
  obtain rfl := Option.some.inj hF
  exact (Fr_up Fr.rf (show Wr_X12_wordLine _ _ from (Or.inr (Or.inr (Or.inr (Or.inr (Or.inr (Or.inr (Or.inr (Or.inr (by omega)))))))))))
theorem fr_X12_wordLine_J103 {N : Nat}   {v1 : Int} {σ : Sto} {res : Int × Sto} (hF : F_X12_wordLine_J103 N  v1 σ = some res) : Fr (Wr_X12_wordLine) σ res.2 := by
  unfold F_X12_wordLine_J103 at hF
  by_cases c3 : v1 = 3
  · have hF := (if_pos c3).symm.trans hF
    exact fr_X12_wordLine_J137  hF
  · have hF := (if_neg c3).symm.trans hF
    by_cases c4 : v1 = 4
    · have hF := (if_pos c4).symm.trans hF
      exact fr_X12_wordLine_J137  hF
    · have hF := (if_neg c4).symm.trans hF
      by_cases c5 : v1 = 5
      · have hF := (if_pos c5).symm.trans hF
        exact fr_X12_wordLine_J137  hF
      · have hF := (if_neg c5).symm.trans hF
        exact fr_X12_wordLine_J137  hF
theorem fr_X12_wordLine {N : Nat}  {σ : Sto} {res : Int × Sto} (hF : F_X12_wordLine N  σ = some res) : Fr (Wr_X12_wordLine) σ res.2 := by
  unfold F_X12_wordLine at hF
  by_cases c1 : (jand (jshr (σ.1 94 21) (σ.1 94 9)) 1) = 1
  · have hF := (if_pos c1).symm.trans hF
    obtain ⟨q18, eq18, hF⟩ := bind_some' hF
    obtain rfl := Option.some.inj hF
    exact (Fr_tr Fr.rf (Fr_mono (fr_X12_wrong (res := q18) eq18) (fun a j h => by
      unfold Wr_X12_wrong at h
      unfold Wr_X12_wordLine
      rcases h with h | h
      · exact (Or.inr (Or.inr (Or.inr (Or.inl (by omega)))))
      · exact (Or.inr (Or.inr (Or.inr (Or.inr (Or.inl (by omega)))))))))
  · have hF := (if_neg c1).symm.trans hF
    obtain ⟨q6, eq6, hF⟩ := bind_some' hF
    by_cases c7 : (σ.1 94 9) = 3
    · have hF := (if_pos c7).symm.trans hF
      obtain ⟨q16, eq16, hF⟩ := bind_some' hF
      by_cases c17 : q16.1 = 0
      · have hF := (if_pos c17).symm.trans hF
        obtain rfl := Option.some.inj hF
        exact (Fr_tr (Fr_tr (Fr_up Fr.rf (show Wr_X12_wordLine _ _ from (Or.inr (Or.inl (by omega))))) (Fr_mono (fr_X12_token (res := q6) eq6) (fun a j h => by
      unfold Wr_X12_token at h
      unfold Wr_X12_wordLine
      rcases h with h | h | h | h
      · exact (Or.inl (by omega))
      · exact (Or.inr (Or.inr (Or.inr (Or.inr (Or.inr (Or.inl (by omega)))))))
      · exact (Or.inr (Or.inr (Or.inr (Or.inr (Or.inr (Or.inr (Or.inl (by omega))))))))
      · exact (Or.inr (Or.inr (Or.inr (Or.inr (Or.inr (Or.inr (Or.inr (Or.inl (by omega)))))))))))) (Fr_mono (fr_X12_number (res := q16) eq16) (fun a j h => by
      unfold Wr_X12_number at h
      unfold Wr_X12_wordLine
      rcases h with h | h | h | h | h | h | h
      · exact (Or.inl (by omega))
      · exact (Or.inr (Or.inr (Or.inl (by omega))))
      · exact (Or.inr (Or.inr (Or.inr (Or.inl (by omega)))))
      · exact (Or.inr (Or.inr (Or.inr (Or.inr (Or.inl (by omega))))))
      · exact (Or.inr (Or.inr (Or.inr (Or.inr (Or.inr (Or.inl (by omega)))))))
      · exact (Or.inr (Or.inr (Or.inr (Or.inr (Or.inr (Or.inr (Or.inl (by omega))))))))
      · exact (Or.inr (Or.inr (Or.inr (Or.inr (Or.inr (Or.inr (Or.inr (Or.inl (by omega))))))))))))
      · have hF := (if_neg c17).symm.trans hF
        exact Fr_tr (Fr_tr (Fr_tr (Fr_up Fr.rf (show Wr_X12_wordLine _ _ from (Or.inr (Or.inl (by omega))))) (Fr_mono (fr_X12_token (res := q6) eq6) (fun a j h => by
      unfold Wr_X12_token at h
      unfold Wr_X12_wordLine
      rcases h with h | h | h | h
      · exact (Or.inl (by omega))
      · exact (Or.inr (Or.inr (Or.inr (Or.inr (Or.inr (Or.inl (by omega)))))))
      · exact (Or.inr (Or.inr (Or.inr (Or.inr (Or.inr (Or.inr (Or.inl (by omega))))))))
      · exact (Or.inr (Or.inr (Or.inr (Or.inr (Or.inr (Or.inr (Or.inr (Or.inl (by omega)))))))))))) (Fr_mono (fr_X12_number (res := q16) eq16) (fun a j h => by
      unfold Wr_X12_number at h
      unfold Wr_X12_wordLine
      rcases h with h | h | h | h | h | h | h
      · exact (Or.inl (by omega))
      · exact (Or.inr (Or.inr (Or.inl (by omega))))
      · exact (Or.inr (Or.inr (Or.inr (Or.inl (by omega)))))
      · exact (Or.inr (Or.inr (Or.inr (Or.inr (Or.inl (by omega))))))
      · exact (Or.inr (Or.inr (Or.inr (Or.inr (Or.inr (Or.inl (by omega)))))))
      · exact (Or.inr (Or.inr (Or.inr (Or.inr (Or.inr (Or.inr (Or.inl (by omega))))))))
      · exact (Or.inr (Or.inr (Or.inr (Or.inr (Or.inr (Or.inr (Or.inr (Or.inl (by omega)))))))))))) (fr_X12_wordLine_J103  hF)
    · have hF := (if_neg c7).symm.trans hF
      by_cases c8 : (σ.1 94 9) = 4
      · have hF := (if_pos c8).symm.trans hF
        obtain ⟨q14, eq14, hF⟩ := bind_some' hF
        by_cases c15 : q14.1 = 0
        · have hF := (if_pos c15).symm.trans hF
          obtain rfl := Option.some.inj hF
          exact (Fr_tr (Fr_tr (Fr_up Fr.rf (show Wr_X12_wordLine _ _ from (Or.inr (Or.inl (by omega))))) (Fr_mono (fr_X12_token (res := q6) eq6) (fun a j h => by
      unfold Wr_X12_token at h
      unfold Wr_X12_wordLine
      rcases h with h | h | h | h
      · exact (Or.inl (by omega))
      · exact (Or.inr (Or.inr (Or.inr (Or.inr (Or.inr (Or.inl (by omega)))))))
      · exact (Or.inr (Or.inr (Or.inr (Or.inr (Or.inr (Or.inr (Or.inl (by omega))))))))
      · exact (Or.inr (Or.inr (Or.inr (Or.inr (Or.inr (Or.inr (Or.inr (Or.inl (by omega)))))))))))) (Fr_mono (fr_X12_number (res := q14) eq14) (fun a j h => by
      unfold Wr_X12_number at h
      unfold Wr_X12_wordLine
      rcases h with h | h | h | h | h | h | h
      · exact (Or.inl (by omega))
      · exact (Or.inr (Or.inr (Or.inl (by omega))))
      · exact (Or.inr (Or.inr (Or.inr (Or.inl (by omega)))))
      · exact (Or.inr (Or.inr (Or.inr (Or.inr (Or.inl (by omega))))))
      · exact (Or.inr (Or.inr (Or.inr (Or.inr (Or.inr (Or.inl (by omega)))))))
      · exact (Or.inr (Or.inr (Or.inr (Or.inr (Or.inr (Or.inr (Or.inl (by omega))))))))
      · exact (Or.inr (Or.inr (Or.inr (Or.inr (Or.inr (Or.inr (Or.inr (Or.inl (by omega))))))))))))
        · have hF := (if_neg c15).symm.trans hF
          exact Fr_tr (Fr_tr (Fr_tr (Fr_up Fr.rf (show Wr_X12_wordLine _ _ from (Or.inr (Or.inl (by omega))))) (Fr_mono (fr_X12_token (res := q6) eq6) (fun a j h => by
      unfold Wr_X12_token at h
      unfold Wr_X12_wordLine
      rcases h with h | h | h | h
      · exact (Or.inl (by omega))
      · exact (Or.inr (Or.inr (Or.inr (Or.inr (Or.inr (Or.inl (by omega)))))))
      · exact (Or.inr (Or.inr (Or.inr (Or.inr (Or.inr (Or.inr (Or.inl (by omega))))))))
      · exact (Or.inr (Or.inr (Or.inr (Or.inr (Or.inr (Or.inr (Or.inr (Or.inl (by omega)))))))))))) (Fr_mono (fr_X12_number (res := q14) eq14) (fun a j h => by
      unfold Wr_X12_number at h
      unfold Wr_X12_wordLine
      rcases h with h | h | h | h | h | h | h
      · exact (Or.inl (by omega))
      · exact (Or.inr (Or.inr (Or.inl (by omega))))
      · exact (Or.inr (Or.inr (Or.inr (Or.inl (by omega)))))
      · exact (Or.inr (Or.inr (Or.inr (Or.inr (Or.inl (by omega))))))
      · exact (Or.inr (Or.inr (Or.inr (Or.inr (Or.inr (Or.inl (by omega)))))))
      · exact (Or.inr (Or.inr (Or.inr (Or.inr (Or.inr (Or.inr (Or.inl (by omega))))))))
      · exact (Or.inr (Or.inr (Or.inr (Or.inr (Or.inr (Or.inr (Or.inr (Or.inl (by omega)))))))))))) (fr_X12_wordLine_J103  hF)
      · have hF := (if_neg c8).symm.trans hF
        by_cases c9 : (σ.1 94 9) = 5
        · have hF := (if_pos c9).symm.trans hF
          obtain ⟨q12, eq12, hF⟩ := bind_some' hF
          by_cases c13 : q12.1 = 0
          · have hF := (if_pos c13).symm.trans hF
            obtain rfl := Option.some.inj hF
            exact (Fr_tr (Fr_tr (Fr_up Fr.rf (show Wr_X12_wordLine _ _ from (Or.inr (Or.inl (by omega))))) (Fr_mono (fr_X12_token (res := q6) eq6) (fun a j h => by
      unfold Wr_X12_token at h
      unfold Wr_X12_wordLine
      rcases h with h | h | h | h
      · exact (Or.inl (by omega))
      · exact (Or.inr (Or.inr (Or.inr (Or.inr (Or.inr (Or.inl (by omega)))))))
      · exact (Or.inr (Or.inr (Or.inr (Or.inr (Or.inr (Or.inr (Or.inl (by omega))))))))
      · exact (Or.inr (Or.inr (Or.inr (Or.inr (Or.inr (Or.inr (Or.inr (Or.inl (by omega)))))))))))) (Fr_mono (fr_X12_number (res := q12) eq12) (fun a j h => by
      unfold Wr_X12_number at h
      unfold Wr_X12_wordLine
      rcases h with h | h | h | h | h | h | h
      · exact (Or.inl (by omega))
      · exact (Or.inr (Or.inr (Or.inl (by omega))))
      · exact (Or.inr (Or.inr (Or.inr (Or.inl (by omega)))))
      · exact (Or.inr (Or.inr (Or.inr (Or.inr (Or.inl (by omega))))))
      · exact (Or.inr (Or.inr (Or.inr (Or.inr (Or.inr (Or.inl (by omega)))))))
      · exact (Or.inr (Or.inr (Or.inr (Or.inr (Or.inr (Or.inr (Or.inl (by omega))))))))
      · exact (Or.inr (Or.inr (Or.inr (Or.inr (Or.inr (Or.inr (Or.inr (Or.inl (by omega))))))))))))
          · have hF := (if_neg c13).symm.trans hF
            exact Fr_tr (Fr_tr (Fr_tr (Fr_up Fr.rf (show Wr_X12_wordLine _ _ from (Or.inr (Or.inl (by omega))))) (Fr_mono (fr_X12_token (res := q6) eq6) (fun a j h => by
      unfold Wr_X12_token at h
      unfold Wr_X12_wordLine
      rcases h with h | h | h | h
      · exact (Or.inl (by omega))
      · exact (Or.inr (Or.inr (Or.inr (Or.inr (Or.inr (Or.inl (by omega)))))))
      · exact (Or.inr (Or.inr (Or.inr (Or.inr (Or.inr (Or.inr (Or.inl (by omega))))))))
      · exact (Or.inr (Or.inr (Or.inr (Or.inr (Or.inr (Or.inr (Or.inr (Or.inl (by omega)))))))))))) (Fr_mono (fr_X12_number (res := q12) eq12) (fun a j h => by
      unfold Wr_X12_number at h
      unfold Wr_X12_wordLine
      rcases h with h | h | h | h | h | h | h
      · exact (Or.inl (by omega))
      · exact (Or.inr (Or.inr (Or.inl (by omega))))
      · exact (Or.inr (Or.inr (Or.inr (Or.inl (by omega)))))
      · exact (Or.inr (Or.inr (Or.inr (Or.inr (Or.inl (by omega))))))
      · exact (Or.inr (Or.inr (Or.inr (Or.inr (Or.inr (Or.inl (by omega)))))))
      · exact (Or.inr (Or.inr (Or.inr (Or.inr (Or.inr (Or.inr (Or.inl (by omega))))))))
      · exact (Or.inr (Or.inr (Or.inr (Or.inr (Or.inr (Or.inr (Or.inr (Or.inl (by omega)))))))))))) (fr_X12_wordLine_J103  hF)
        · have hF := (if_neg c9).symm.trans hF
          obtain ⟨q10, eq10, hF⟩ := bind_some' hF
          by_cases c11 : q10.1 = 0
          · have hF := (if_pos c11).symm.trans hF
            obtain rfl := Option.some.inj hF
            exact (Fr_tr (Fr_tr (Fr_up Fr.rf (show Wr_X12_wordLine _ _ from (Or.inr (Or.inl (by omega))))) (Fr_mono (fr_X12_token (res := q6) eq6) (fun a j h => by
      unfold Wr_X12_token at h
      unfold Wr_X12_wordLine
      rcases h with h | h | h | h
      · exact (Or.inl (by omega))
      · exact (Or.inr (Or.inr (Or.inr (Or.inr (Or.inr (Or.inl (by omega)))))))
      · exact (Or.inr (Or.inr (Or.inr (Or.inr (Or.inr (Or.inr (Or.inl (by omega))))))))
      · exact (Or.inr (Or.inr (Or.inr (Or.inr (Or.inr (Or.inr (Or.inr (Or.inl (by omega)))))))))))) (Fr_mono (fr_X12_number (res := q10) eq10) (fun a j h => by
      unfold Wr_X12_number at h
      unfold Wr_X12_wordLine
      rcases h with h | h | h | h | h | h | h
      · exact (Or.inl (by omega))
      · exact (Or.inr (Or.inr (Or.inl (by omega))))
      · exact (Or.inr (Or.inr (Or.inr (Or.inl (by omega)))))
      · exact (Or.inr (Or.inr (Or.inr (Or.inr (Or.inl (by omega))))))
      · exact (Or.inr (Or.inr (Or.inr (Or.inr (Or.inr (Or.inl (by omega)))))))
      · exact (Or.inr (Or.inr (Or.inr (Or.inr (Or.inr (Or.inr (Or.inl (by omega))))))))
      · exact (Or.inr (Or.inr (Or.inr (Or.inr (Or.inr (Or.inr (Or.inr (Or.inl (by omega))))))))))))
          · have hF := (if_neg c11).symm.trans hF
            exact Fr_tr (Fr_tr (Fr_tr (Fr_up Fr.rf (show Wr_X12_wordLine _ _ from (Or.inr (Or.inl (by omega))))) (Fr_mono (fr_X12_token (res := q6) eq6) (fun a j h => by
      unfold Wr_X12_token at h
      unfold Wr_X12_wordLine
      rcases h with h | h | h | h
      · exact (Or.inl (by omega))
      · exact (Or.inr (Or.inr (Or.inr (Or.inr (Or.inr (Or.inl (by omega)))))))
      · exact (Or.inr (Or.inr (Or.inr (Or.inr (Or.inr (Or.inr (Or.inl (by omega))))))))
      · exact (Or.inr (Or.inr (Or.inr (Or.inr (Or.inr (Or.inr (Or.inr (Or.inl (by omega)))))))))))) (Fr_mono (fr_X12_number (res := q10) eq10) (fun a j h => by
      unfold Wr_X12_number at h
      unfold Wr_X12_wordLine
      rcases h with h | h | h | h | h | h | h
      · exact (Or.inl (by omega))
      · exact (Or.inr (Or.inr (Or.inl (by omega))))
      · exact (Or.inr (Or.inr (Or.inr (Or.inl (by omega)))))
      · exact (Or.inr (Or.inr (Or.inr (Or.inr (Or.inl (by omega))))))
      · exact (Or.inr (Or.inr (Or.inr (Or.inr (Or.inr (Or.inl (by omega)))))))
      · exact (Or.inr (Or.inr (Or.inr (Or.inr (Or.inr (Or.inr (Or.inl (by omega))))))))
      · exact (Or.inr (Or.inr (Or.inr (Or.inr (Or.inr (Or.inr (Or.inr (Or.inl (by omega)))))))))))) (fr_X12_wordLine_J103  hF)
def Wr_X12_lineRead (a : Nat) (j : Int) : Prop := (a = 94 ∧ j = 10) ∨ (a = 94 ∧ j = 12) ∨ (a = 94 ∧ j = 15) ∨ (a = 94 ∧ j = 18) ∨ (a = 94 ∧ j = 21) ∨ (a = 94 ∧ j = 22) ∨ (a = 94 ∧ j = 4) ∨ (a = 94 ∧ j = 5) ∨ (a = 94 ∧ j = 7) ∨ (a = 94 ∧ j = 8) ∨ (a = 94 ∧ j = 9) ∨ ((97 ≤ a ∧ a ≤ 100))
theorem fr_X12_lineRead_J62 {N : Nat}   {t0 : Int} {σ : Sto} {res : Int × Sto} (hF : F_X12_lineRead_J62 N  t0 σ = some res) : Fr (Wr_X12_lineRead) σ res.2 := by
  unfold F_X12_lineRead_J62 at hF
  by_cases c2 : t0 = 0
  · have hF := (if_pos c2).symm.trans hF
    obtain rfl := Option.some.inj hF
    exact Fr.rf
  · have hF := (if_neg c2).symm.trans hF
    by_cases c3 : (σ.1 94 8) = 4
    · have hF := (if_pos c3).symm.trans hF
      obtain ⟨q4, eq4, hF⟩ := bind_some' hF
      obtain rfl := Option.some.inj hF
      exact (Fr_tr Fr.rf (Fr_mono (fr_X12_token (res := q4) eq4) (fun a j h => by
      unfold Wr_X12_token at h
      unfold Wr_X12_lineRead
      rcases h with h | h | h | h
      · exact (Or.inl (by omega))
      · exact (Or.inr (Or.inr (Or.inr (Or.inr (Or.inr (Or.inr (Or.inr (Or.inr (Or.inl (by omega))))))))))
      · exact (Or.inr (Or.inr (Or.inr (Or.inr (Or.inr (Or.inr (Or.inr (Or.inr (Or.inr (Or.inl (by omega)))))))))))
      · exact (Or.inr (Or.inr (Or.inr (Or.inr (Or.inr (Or.inr (Or.inr (Or.inr (Or.inr (Or.inr (Or.inl (by omega)))))))))))))))
    · have hF := (if_neg c3).symm.trans hF
      obtain ⟨q5, eq5, hF⟩ := bind_some' hF
      obtain rfl := Option.some.inj hF
      exact (Fr_tr Fr.rf (Fr_mono (fr_X12_wrong (res := q5) eq5) (fun a j h => by
      unfold Wr_X12_wrong at h
      unfold Wr_X12_lineRead
      rcases h with h | h
      · exact (Or.inr (Or.inr (Or.inr (Or.inr (Or.inr (Or.inr (Or.inl (by omega))))))))
      · exact (Or.inr (Or.inr (Or.inr (Or.inr (Or.inr (Or.inr (Or.inr (Or.inl (by omega))))))))))))
theorem fr_X12_lineRead {N : Nat}  {σ : Sto} {res : Int × Sto} (hF : F_X12_lineRead N  σ = some res) : Fr (Wr_X12_lineRead) σ res.2 := by
  unfold F_X12_lineRead at hF
  by_cases c1 : (σ.1 94 8) = 1
  · have hF := (if_pos c1).symm.trans hF
    by_cases c6 : (σ.1 94 9) = 0
    · have hF := (if_pos c6).symm.trans hF
      obtain ⟨q12, eq12, hF⟩ := bind_some' hF
      exact Fr_tr (Fr_tr Fr.rf (Fr_mono (fr_X12_memberLine (res := q12) eq12) (fun a j h => by
      unfold Wr_X12_memberLine at h
      unfold Wr_X12_lineRead
      rcases h with h | h | h | h | h | h | h | h | h
      · exact (Or.inl (by omega))
      · exact (Or.inr (Or.inl (by omega)))
      · exact (Or.inr (Or.inr (Or.inr (Or.inr (Or.inr (Or.inl (by omega)))))))
      · exact (Or.inr (Or.inr (Or.inr (Or.inr (Or.inr (Or.inr (Or.inl (by omega))))))))
      · exact (Or.inr (Or.inr (Or.inr (Or.inr (Or.inr (Or.inr (Or.inr (Or.inl (by omega)))))))))
      · exact (Or.inr (Or.inr (Or.inr (Or.inr (Or.inr (Or.inr (Or.inr (Or.inr (Or.inl (by omega))))))))))
      · exact (Or.inr (Or.inr (Or.inr (Or.inr (Or.inr (Or.inr (Or.inr (Or.inr (Or.inr (Or.inl (by omega)))))))))))
      · exact (Or.inr (Or.inr (Or.inr (Or.inr (Or.inr (Or.inr (Or.inr (Or.inr (Or.inr (Or.inr (Or.inl (by omega))))))))))))
      · exact (Or.inr (Or.inr (Or.inr (Or.inr (Or.inr (Or.inr (Or.inr (Or.inr (Or.inr (Or.inr (Or.inr (by omega))))))))))))))) (fr_X12_lineRead_J62  hF)
    · have hF := (if_neg c6).symm.trans hF
      by_cases c7 : (σ.1 94 9) = 1
      · have hF := (if_pos c7).symm.trans hF
        obtain ⟨q11, eq11, hF⟩ := bind_some' hF
        exact Fr_tr (Fr_tr Fr.rf (Fr_mono (fr_X12_ownsLine (res := q11) eq11) (fun a j h => by
      unfold Wr_X12_ownsLine at h
      unfold Wr_X12_lineRead
      rcases h with h | h | h | h | h | h | h | h | h
      · exact (Or.inl (by omega))
      · exact (Or.inr (Or.inr (Or.inr (Or.inl (by omega)))))
      · exact (Or.inr (Or.inr (Or.inr (Or.inr (Or.inr (Or.inl (by omega)))))))
      · exact (Or.inr (Or.inr (Or.inr (Or.inr (Or.inr (Or.inr (Or.inl (by omega))))))))
      · exact (Or.inr (Or.inr (Or.inr (Or.inr (Or.inr (Or.inr (Or.inr (Or.inl (by omega)))))))))
      · exact (Or.inr (Or.inr (Or.inr (Or.inr (Or.inr (Or.inr (Or.inr (Or.inr (Or.inl (by omega))))))))))
      · exact (Or.inr (Or.inr (Or.inr (Or.inr (Or.inr (Or.inr (Or.inr (Or.inr (Or.inr (Or.inl (by omega)))))))))))
      · exact (Or.inr (Or.inr (Or.inr (Or.inr (Or.inr (Or.inr (Or.inr (Or.inr (Or.inr (Or.inr (Or.inl (by omega))))))))))))
      · exact (Or.inr (Or.inr (Or.inr (Or.inr (Or.inr (Or.inr (Or.inr (Or.inr (Or.inr (Or.inr (Or.inr (by omega))))))))))))))) (fr_X12_lineRead_J62  hF)
      · have hF := (if_neg c7).symm.trans hF
        by_cases c8 : (σ.1 94 9) = 2
        · have hF := (if_pos c8).symm.trans hF
          obtain ⟨q10, eq10, hF⟩ := bind_some' hF
          exact Fr_tr (Fr_tr Fr.rf (Fr_mono (fr_X12_periodLine (res := q10) eq10) (fun a j h => by
      unfold Wr_X12_periodLine at h
      unfold Wr_X12_lineRead
      rcases h with h | h | h | h | h | h | h | h | h
      · exact (Or.inl (by omega))
      · exact (Or.inr (Or.inr (Or.inl (by omega))))
      · exact (Or.inr (Or.inr (Or.inr (Or.inr (Or.inr (Or.inl (by omega)))))))
      · exact (Or.inr (Or.inr (Or.inr (Or.inr (Or.inr (Or.inr (Or.inl (by omega))))))))
      · exact (Or.inr (Or.inr (Or.inr (Or.inr (Or.inr (Or.inr (Or.inr (Or.inl (by omega)))))))))
      · exact (Or.inr (Or.inr (Or.inr (Or.inr (Or.inr (Or.inr (Or.inr (Or.inr (Or.inl (by omega))))))))))
      · exact (Or.inr (Or.inr (Or.inr (Or.inr (Or.inr (Or.inr (Or.inr (Or.inr (Or.inr (Or.inl (by omega)))))))))))
      · exact (Or.inr (Or.inr (Or.inr (Or.inr (Or.inr (Or.inr (Or.inr (Or.inr (Or.inr (Or.inr (Or.inl (by omega))))))))))))
      · exact (Or.inr (Or.inr (Or.inr (Or.inr (Or.inr (Or.inr (Or.inr (Or.inr (Or.inr (Or.inr (Or.inr (by omega))))))))))))))) (fr_X12_lineRead_J62  hF)
        · have hF := (if_neg c8).symm.trans hF
          obtain ⟨q9, eq9, hF⟩ := bind_some' hF
          exact Fr_tr (Fr_tr Fr.rf (Fr_mono (fr_X12_wordLine (res := q9) eq9) (fun a j h => by
      unfold Wr_X12_wordLine at h
      unfold Wr_X12_lineRead
      rcases h with h | h | h | h | h | h | h | h | h
      · exact (Or.inl (by omega))
      · exact (Or.inr (Or.inr (Or.inr (Or.inr (Or.inl (by omega))))))
      · exact (Or.inr (Or.inr (Or.inr (Or.inr (Or.inr (Or.inl (by omega)))))))
      · exact (Or.inr (Or.inr (Or.inr (Or.inr (Or.inr (Or.inr (Or.inl (by omega))))))))
      · exact (Or.inr (Or.inr (Or.inr (Or.inr (Or.inr (Or.inr (Or.inr (Or.inl (by omega)))))))))
      · exact (Or.inr (Or.inr (Or.inr (Or.inr (Or.inr (Or.inr (Or.inr (Or.inr (Or.inl (by omega))))))))))
      · exact (Or.inr (Or.inr (Or.inr (Or.inr (Or.inr (Or.inr (Or.inr (Or.inr (Or.inr (Or.inl (by omega)))))))))))
      · exact (Or.inr (Or.inr (Or.inr (Or.inr (Or.inr (Or.inr (Or.inr (Or.inr (Or.inr (Or.inr (Or.inl (by omega))))))))))))
      · exact (Or.inr (Or.inr (Or.inr (Or.inr (Or.inr (Or.inr (Or.inr (Or.inr (Or.inr (Or.inr (Or.inr (by omega))))))))))))))) (fr_X12_lineRead_J62  hF)
  · have hF := (if_neg c1).symm.trans hF
    obtain ⟨q13, eq13, hF⟩ := bind_some' hF
    obtain rfl := Option.some.inj hF
    exact (Fr_tr Fr.rf (Fr_mono (fr_X12_wrong (res := q13) eq13) (fun a j h => by
      unfold Wr_X12_wrong at h
      unfold Wr_X12_lineRead
      rcases h with h | h
      · exact (Or.inr (Or.inr (Or.inr (Or.inr (Or.inr (Or.inr (Or.inl (by omega))))))))
      · exact (Or.inr (Or.inr (Or.inr (Or.inr (Or.inr (Or.inr (Or.inr (Or.inl (by omega))))))))))))
def Wr_X12_text (a : Nat) (j : Int) : Prop := (a = 94 ∧ j = 1) ∨ (a = 94 ∧ j = 10) ∨ (a = 94 ∧ j = 11) ∨ (a = 94 ∧ j = 12) ∨ (a = 94 ∧ j = 14) ∨ (a = 94 ∧ j = 15) ∨ (a = 94 ∧ j = 17) ∨ (a = 94 ∧ j = 18) ∨ (a = 94 ∧ j = 2) ∨ (a = 94 ∧ j = 21) ∨ (a = 94 ∧ j = 22) ∨ (a = 94 ∧ j = 24) ∨ (a = 94 ∧ j = 25) ∨ (a = 94 ∧ j = 26) ∨ (a = 94 ∧ j = 33) ∨ (a = 94 ∧ j = 4) ∨ (a = 94 ∧ j = 5) ∨ (a = 94 ∧ j = 6) ∨ (a = 94 ∧ j = 7) ∨ (a = 94 ∧ j = 8) ∨ (a = 94 ∧ j = 9) ∨ ((97 ≤ a ∧ a ≤ 101))
theorem fr_X12_text_J77 {N : Nat}   {v2 : Int} {σ : Sto} {res : Int × Sto} (hF : F_X12_text_J77 N  v2 σ = some res) : Fr (Wr_X12_text) σ res.2 := by
  unfold F_X12_text_J77 at hF
  obtain ⟨q5, eq5, hF⟩ := bind_some' hF
  obtain rfl := Option.some.inj hF
  exact (Fr_tr Fr.rf (Fr_mono (fr_X12_keepText (res := q5) eq5) (fun a j h => by
      unfold Wr_X12_keepText at h
      unfold Wr_X12_text
      rcases h with h | h | h | h | h | h | h | h
      · exact (Or.inr (Or.inr (Or.inl (by omega))))
      · exact (Or.inr (Or.inr (Or.inr (Or.inr (Or.inl (by omega))))))
      · exact (Or.inr (Or.inr (Or.inr (Or.inr (Or.inr (Or.inr (Or.inl (by omega))))))))
      · exact (Or.inr (Or.inr (Or.inr (Or.inr (Or.inr (Or.inr (Or.inr (Or.inr (Or.inr (Or.inr (Or.inr (Or.inl (by omega)))))))))))))
      · exact (Or.inr (Or.inr (Or.inr (Or.inr (Or.inr (Or.inr (Or.inr (Or.inr (Or.inr (Or.inr (Or.inr (Or.inr (Or.inl (by omega))))))))))))))
      · exact (Or.inr (Or.inr (Or.inr (Or.inr (Or.inr (Or.inr (Or.inr (Or.inr (Or.inr (Or.inr (Or.inr (Or.inr (Or.inr (Or.inl (by omega)))))))))))))))
      · exact (Or.inr (Or.inr (Or.inr (Or.inr (Or.inr (Or.inr (Or.inr (Or.inr (Or.inr (Or.inr (Or.inr (Or.inr (Or.inr (Or.inr (Or.inl (by omega))))))))))))))))
      · exact (Or.inr (Or.inr (Or.inr (Or.inr (Or.inr (Or.inr (Or.inr (Or.inr (Or.inr (Or.inr (Or.inr (Or.inr (Or.inr (Or.inr (Or.inr (Or.inr (Or.inr (Or.inr (Or.inr (Or.inr (Or.inr (by omega)))))))))))))))))))))))))
theorem fr_X12_text_B55 {N : Nat}  {nx55 : (Int × Sto) → Option (Int × Sto)} {v2 : Int} {σ : Sto} {res : Int × Sto} (hnx55 : ∀ q, nx55 q = some res → Fr (Wr_X12_text) q.2 res.2) (hF : F_X12_text_B55 N nx55 v2 σ = some res) : Fr (Wr_X12_text) σ res.2 := by
  unfold F_X12_text_B55 at hF
  by_cases c6 : (σ.1 94 8) = 0
  · have hF := (if_pos c6).symm.trans hF
    exact fr_X12_text_J77  hF
  · have hF := (if_neg c6).symm.trans hF
    obtain ⟨q7, eq7, hF⟩ := bind_some' hF
    by_cases c8 : q7.1 = 0
    · have hF := (if_pos c8).symm.trans hF
      obtain rfl := Option.some.inj hF
      exact (Fr_tr Fr.rf (Fr_mono (fr_X12_lineRead (res := q7) eq7) (fun a j h => by
      unfold Wr_X12_lineRead at h
      unfold Wr_X12_text
      rcases h with h | h | h | h | h | h | h | h | h | h | h | h
      · exact (Or.inr (Or.inl (by omega)))
      · exact (Or.inr (Or.inr (Or.inr (Or.inl (by omega)))))
      · exact (Or.inr (Or.inr (Or.inr (Or.inr (Or.inr (Or.inl (by omega)))))))
      · exact (Or.inr (Or.inr (Or.inr (Or.inr (Or.inr (Or.inr (Or.inr (Or.inl (by omega)))))))))
      · exact (Or.inr (Or.inr (Or.inr (Or.inr (Or.inr (Or.inr (Or.inr (Or.inr (Or.inr (Or.inl (by omega)))))))))))
      · exact (Or.inr (Or.inr (Or.inr (Or.inr (Or.inr (Or.inr (Or.inr (Or.inr (Or.inr (Or.inr (Or.inl (by omega))))))))))))
      · exact (Or.inr (Or.inr (Or.inr (Or.inr (Or.inr (Or.inr (Or.inr (Or.inr (Or.inr (Or.inr (Or.inr (Or.inr (Or.inr (Or.inr (Or.inr (Or.inl (by omega)))))))))))))))))
      · exact (Or.inr (Or.inr (Or.inr (Or.inr (Or.inr (Or.inr (Or.inr (Or.inr (Or.inr (Or.inr (Or.inr (Or.inr (Or.inr (Or.inr (Or.inr (Or.inr (Or.inl (by omega))))))))))))))))))
      · exact (Or.inr (Or.inr (Or.inr (Or.inr (Or.inr (Or.inr (Or.inr (Or.inr (Or.inr (Or.inr (Or.inr (Or.inr (Or.inr (Or.inr (Or.inr (Or.inr (Or.inr (Or.inr (Or.inl (by omega))))))))))))))))))))
      · exact (Or.inr (Or.inr (Or.inr (Or.inr (Or.inr (Or.inr (Or.inr (Or.inr (Or.inr (Or.inr (Or.inr (Or.inr (Or.inr (Or.inr (Or.inr (Or.inr (Or.inr (Or.inr (Or.inr (Or.inl (by omega)))))))))))))))))))))
      · exact (Or.inr (Or.inr (Or.inr (Or.inr (Or.inr (Or.inr (Or.inr (Or.inr (Or.inr (Or.inr (Or.inr (Or.inr (Or.inr (Or.inr (Or.inr (Or.inr (Or.inr (Or.inr (Or.inr (Or.inr (Or.inl (by omega))))))))))))))))))))))
      · exact (Or.inr (Or.inr (Or.inr (Or.inr (Or.inr (Or.inr (Or.inr (Or.inr (Or.inr (Or.inr (Or.inr (Or.inr (Or.inr (Or.inr (Or.inr (Or.inr (Or.inr (Or.inr (Or.inr (Or.inr (Or.inr (by omega)))))))))))))))))))))))))
    · have hF := (if_neg c8).symm.trans hF
      exact Fr_tr (Fr_tr Fr.rf (Fr_mono (fr_X12_lineRead (res := q7) eq7) (fun a j h => by
      unfold Wr_X12_lineRead at h
      unfold Wr_X12_text
      rcases h with h | h | h | h | h | h | h | h | h | h | h | h
      · exact (Or.inr (Or.inl (by omega)))
      · exact (Or.inr (Or.inr (Or.inr (Or.inl (by omega)))))
      · exact (Or.inr (Or.inr (Or.inr (Or.inr (Or.inr (Or.inl (by omega)))))))
      · exact (Or.inr (Or.inr (Or.inr (Or.inr (Or.inr (Or.inr (Or.inr (Or.inl (by omega)))))))))
      · exact (Or.inr (Or.inr (Or.inr (Or.inr (Or.inr (Or.inr (Or.inr (Or.inr (Or.inr (Or.inl (by omega)))))))))))
      · exact (Or.inr (Or.inr (Or.inr (Or.inr (Or.inr (Or.inr (Or.inr (Or.inr (Or.inr (Or.inr (Or.inl (by omega))))))))))))
      · exact (Or.inr (Or.inr (Or.inr (Or.inr (Or.inr (Or.inr (Or.inr (Or.inr (Or.inr (Or.inr (Or.inr (Or.inr (Or.inr (Or.inr (Or.inr (Or.inl (by omega)))))))))))))))))
      · exact (Or.inr (Or.inr (Or.inr (Or.inr (Or.inr (Or.inr (Or.inr (Or.inr (Or.inr (Or.inr (Or.inr (Or.inr (Or.inr (Or.inr (Or.inr (Or.inr (Or.inl (by omega))))))))))))))))))
      · exact (Or.inr (Or.inr (Or.inr (Or.inr (Or.inr (Or.inr (Or.inr (Or.inr (Or.inr (Or.inr (Or.inr (Or.inr (Or.inr (Or.inr (Or.inr (Or.inr (Or.inr (Or.inr (Or.inl (by omega))))))))))))))))))))
      · exact (Or.inr (Or.inr (Or.inr (Or.inr (Or.inr (Or.inr (Or.inr (Or.inr (Or.inr (Or.inr (Or.inr (Or.inr (Or.inr (Or.inr (Or.inr (Or.inr (Or.inr (Or.inr (Or.inr (Or.inl (by omega)))))))))))))))))))))
      · exact (Or.inr (Or.inr (Or.inr (Or.inr (Or.inr (Or.inr (Or.inr (Or.inr (Or.inr (Or.inr (Or.inr (Or.inr (Or.inr (Or.inr (Or.inr (Or.inr (Or.inr (Or.inr (Or.inr (Or.inr (Or.inl (by omega))))))))))))))))))))))
      · exact (Or.inr (Or.inr (Or.inr (Or.inr (Or.inr (Or.inr (Or.inr (Or.inr (Or.inr (Or.inr (Or.inr (Or.inr (Or.inr (Or.inr (Or.inr (Or.inr (Or.inr (Or.inr (Or.inr (Or.inr (Or.inr (by omega))))))))))))))))))))))))) (hnx55 ((ja v2 1), q7.2) hF)
theorem fr_X12_text {N : Nat} {v1 : Int} {σ : Sto} {res : Int × Sto} (hF : F_X12_text N v1 σ = some res) : Fr (Wr_X12_text) σ res.2 := by
  unfold F_X12_text at hF
  by_cases c1 : v1 < 0
  · have hF := (if_pos c1).symm.trans hF
    obtain rfl := Option.some.inj hF
    exact (Fr_up Fr.rf (show Wr_X12_text _ _ from (Or.inr (Or.inr (Or.inr (Or.inr (Or.inr (Or.inr (Or.inr (Or.inr (Or.inl (by omega))))))))))))
  · have hF := (if_neg c1).symm.trans hF
    by_cases c2 : v1 ≤ ((upI σ 94 2 0).1 94 1)
    · have hF := (if_pos c2).symm.trans hF
      obtain ⟨q3, eq3, hF⟩ := bind_some' hF
      obtain ⟨q4, eq4, hF⟩ := bind_some' hF
      exact Fr_tr (Fr_tr (Fr_tr (Fr_up (Fr_up (Fr_up (Fr_up (Fr_up (Fr_up Fr.rf (show Wr_X12_text _ _ from (Or.inr (Or.inr (Or.inr (Or.inr (Or.inr (Or.inr (Or.inr (Or.inr (Or.inl (by omega)))))))))))) (show Wr_X12_text _ _ from (Or.inr (Or.inr (Or.inr (Or.inr (Or.inr (Or.inr (Or.inr (Or.inr (Or.inr (Or.inr (Or.inr (Or.inr (Or.inr (Or.inr (Or.inr (Or.inr (Or.inr (Or.inl (by omega))))))))))))))))))))) (show Wr_X12_text _ _ from (Or.inl (by omega)))) (show Wr_X12_text _ _ from (Or.inr (Or.inr (Or.inr (Or.inr (Or.inr (Or.inr (Or.inr (Or.inr (Or.inr (Or.inr (Or.inr (Or.inr (Or.inr (Or.inr (Or.inr (Or.inl (by omega))))))))))))))))))) (show Wr_X12_text _ _ from (Or.inr (Or.inr (Or.inr (Or.inr (Or.inr (Or.inr (Or.inr (Or.inr (Or.inr (Or.inr (Or.inr (Or.inr (Or.inr (Or.inr (Or.inr (Or.inr (Or.inl (by omega)))))))))))))))))))) (show Wr_X12_text _ _ from (Or.inr (Or.inr (Or.inr (Or.inr (Or.inr (Or.inr (Or.inr (Or.inr (Or.inr (Or.inr (Or.inr (Or.inr (Or.inr (Or.inr (Or.inr (Or.inr (Or.inr (Or.inr (Or.inl (by omega)))))))))))))))))))))) (Fr_mono (fr_X12_plain (res := q3) eq3) (fun a j h => by
      unfold Wr_X12_plain at h
      unfold Wr_X12_text
      rcases h with h | h | h | h | h
      · exact (Or.inr (Or.inr (Or.inr (Or.inl (by omega)))))
      · exact (Or.inr (Or.inr (Or.inr (Or.inr (Or.inr (Or.inl (by omega)))))))
      · exact (Or.inr (Or.inr (Or.inr (Or.inr (Or.inr (Or.inr (Or.inr (Or.inl (by omega)))))))))
      · exact (Or.inr (Or.inr (Or.inr (Or.inr (Or.inr (Or.inr (Or.inr (Or.inr (Or.inr (Or.inl (by omega)))))))))))
      · exact (Or.inr (Or.inr (Or.inr (Or.inr (Or.inr (Or.inr (Or.inr (Or.inr (Or.inr (Or.inr (Or.inr (Or.inr (Or.inr (Or.inr (Or.inr (Or.inr (Or.inr (Or.inr (Or.inr (Or.inr (Or.inr (by omega))))))))))))))))))))))))) (Fr_mono (fr_X12_token (res := q4) eq4) (fun a j h => by
      unfold Wr_X12_token at h
      unfold Wr_X12_text
      rcases h with h | h | h | h
      · exact (Or.inr (Or.inl (by omega)))
      · exact (Or.inr (Or.inr (Or.inr (Or.inr (Or.inr (Or.inr (Or.inr (Or.inr (Or.inr (Or.inr (Or.inr (Or.inr (Or.inr (Or.inr (Or.inr (Or.inr (Or.inr (Or.inr (Or.inl (by omega))))))))))))))))))))
      · exact (Or.inr (Or.inr (Or.inr (Or.inr (Or.inr (Or.inr (Or.inr (Or.inr (Or.inr (Or.inr (Or.inr (Or.inr (Or.inr (Or.inr (Or.inr (Or.inr (Or.inr (Or.inr (Or.inr (Or.inl (by omega)))))))))))))))))))))
      · exact (Or.inr (Or.inr (Or.inr (Or.inr (Or.inr (Or.inr (Or.inr (Or.inr (Or.inr (Or.inr (Or.inr (Or.inr (Or.inr (Or.inr (Or.inr (Or.inr (Or.inr (Or.inr (Or.inr (Or.inr (Or.inl (by omega))))))))))))))))))))))))) (loopK_ind (res := res) (P := fun (q : Int × Sto) => Fr (Wr_X12_text) q.2 res.2) (fun nx q hn hF => fr_X12_text_B55 hn hF) N (0, q4) hF)
    · have hF := (if_neg c2).symm.trans hF
      obtain rfl := Option.some.inj hF
      exact (Fr_up Fr.rf (show Wr_X12_text _ _ from (Or.inr (Or.inr (Or.inr (Or.inr (Or.inr (Or.inr (Or.inr (Or.inr (Or.inl (by omega))))))))))))
def Wr_X12_fault (a : Nat) (j : Int) : Prop := (a = 94 ∧ j = 2)
theorem fr_X12_fault {N : Nat} {v1 : Int} {σ : Sto} {res : Int × Sto} (hF : F_X12_fault N v1 σ = some res) : Fr (Wr_X12_fault) σ res.2 := by
  unfold F_X12_fault at hF
  by_cases c1 : v1 = 0
  · have hF := (if_pos c1).symm.trans hF
    obtain rfl := Option.some.inj hF
    exact (Fr_up Fr.rf (show Wr_X12_fault _ _ from (by unfold Wr_X12_fault; omega)))
  · have hF := (if_neg c1).symm.trans hF
    by_cases c2 : v1 = 1
    · have hF := (if_pos c2).symm.trans hF
      obtain rfl := Option.some.inj hF
      exact (Fr_up Fr.rf (show Wr_X12_fault _ _ from (by unfold Wr_X12_fault; omega)))
    · have hF := (if_neg c2).symm.trans hF
      obtain rfl := Option.some.inj hF
      exact (Fr_up Fr.rf (show Wr_X12_fault _ _ from (by unfold Wr_X12_fault; omega)))
def Wr_X12_named (a : Nat) (j : Int) : Prop := (a = 94 ∧ j = 2)
theorem fr_X12_named {N : Nat} {v1 : Int} {σ : Sto} {res : Int × Sto} (hF : F_X12_named N v1 σ = some res) : Fr (Wr_X12_named) σ res.2 := by
  unfold F_X12_named at hF
  obtain ⟨q1, eq1, hF⟩ := bind_some' hF
  obtain rfl := Option.some.inj hF
  exact (Fr_up Fr.rf (show Wr_X12_named _ _ from (by unfold Wr_X12_named; omega)))
def Wr_X12_copyBank (a : Nat) (j : Int) : Prop := (a = 101)
theorem fr_X12_copyBank_B2 {N : Nat}  {nx2 : (Int × Sto) → Option (Sto)} {v1 : Int} {v2 : Int} {v3 : Int} {σ : Sto} {res : Sto} (hnx2 : ∀ q, nx2 q = some res → Fr (Wr_X12_copyBank) q.2 res) (hF : F_X12_copyBank_B2 N nx2 v1 v2 v3 σ = some res) : Fr (Wr_X12_copyBank) σ res := by
  unfold F_X12_copyBank_B2 at hF
  by_cases c1 : 200 ≤ v3
  · have hF := (if_pos c1).symm.trans hF
    obtain rfl := Option.some.inj hF
    exact Fr.rf
  · have hF := (if_neg c1).symm.trans hF
    obtain ⟨b2, hF⟩ := inb_some hF
    obtain ⟨b3, hF⟩ := inb_some hF
    exact Fr_tr (Fr_up Fr.rf (show Wr_X12_copyBank _ _ from (by unfold Wr_X12_copyBank; omega))) (hnx2 ((ja v3 1), (upI σ 101 (ja (jm 200 v2) v3) (σ.1 101 (ja (jm 200 v1) v3)))) hF)
theorem fr_X12_copyBank {N : Nat} {v1 : Int} {v2 : Int} {σ : Sto} {res : Sto} (hF : F_X12_copyBank N v1 v2 σ = some res) : Fr (Wr_X12_copyBank) σ res := by
  unfold F_X12_copyBank at hF
  exact (loopK_ind (res := res) (P := fun (q : Int × Sto) => Fr (Wr_X12_copyBank) q.2 res) (fun nx q hn hF => fr_X12_copyBank_B2 hn hF) N (0, σ) hF)
def Wr_X12_canUndo (a : Nat) (j : Int) : Prop := (a = 94 ∧ j = 25) ∨ (a = 101)
theorem fr_X12_canUndo_J39 {N : Nat}    {σ : Sto} {res : Sto} (hF : F_X12_canUndo_J39 N   σ = some res) : Fr (Wr_X12_canUndo) σ res := by
  unfold F_X12_canUndo_J39 at hF
  obtain ⟨q1, eq1, hF⟩ := bind_some' hF
  obtain rfl := Option.some.inj hF
  exact (Fr_up (Fr_tr Fr.rf (Fr_mono (fr_X12_copyBank (res := q1) eq1) (fun a j h => by have h : Wr_X12_copyBank a j := h; unfold Wr_X12_copyBank at h; unfold Wr_X12_canUndo; (exact (Or.inr (by omega)))))) (show Wr_X12_canUndo _ _ from (Or.inl (by omega))))
theorem fr_X12_canUndo_J33 {N : Nat}    {σ : Sto} {res : Sto} (hF : F_X12_canUndo_J33 N   σ = some res) : Fr (Wr_X12_canUndo) σ res := by
  unfold F_X12_canUndo_J33 at hF
  exact Fr_tr (Fr_up Fr.rf (show Wr_X12_canUndo _ _ from (Or.inl (by omega)))) (fr_X12_canUndo_J39  hF)
theorem fr_X12_canUndo_B11 {N : Nat}  {nx11 : (Int × Sto) → Option (Sto)} {v1 : Int} {σ : Sto} {res : Sto} (hnx11 : ∀ q, nx11 q = some res → Fr (Wr_X12_canUndo) q.2 res) (hF : F_X12_canUndo_B11 N nx11 v1 σ = some res) : Fr (Wr_X12_canUndo) σ res := by
  unfold F_X12_canUndo_B11 at hF
  by_cases c3 : 20 ≤ v1
  · have hF := (if_pos c3).symm.trans hF
    exact fr_X12_canUndo_J33  hF
  · have hF := (if_neg c3).symm.trans hF
    obtain ⟨q4, eq4, hF⟩ := bind_some' hF
    exact Fr_tr (Fr_tr Fr.rf (Fr_mono (fr_X12_copyBank (res := q4) eq4) (fun a j h => by have h : Wr_X12_copyBank a j := h; unfold Wr_X12_copyBank at h; unfold Wr_X12_canUndo; (exact (Or.inr (by omega)))))) (hnx11 ((ja v1 1), q4) hF)
theorem fr_X12_canUndo {N : Nat}  {σ : Sto} {res : Sto} (hF : F_X12_canUndo N  σ = some res) : Fr (Wr_X12_canUndo) σ res := by
  unfold F_X12_canUndo at hF
  by_cases c2 : (σ.1 94 25) = 20
  · have hF := (if_pos c2).symm.trans hF
    exact (loopK_ind (res := res) (P := fun (q : Int × Sto) => Fr (Wr_X12_canUndo) q.2 res) (fun nx q hn hF => fr_X12_canUndo_B11 hn hF) N (1, σ) hF)
  · have hF := (if_neg c2).symm.trans hF
    exact fr_X12_canUndo_J39  hF
def Wr_X12_undo (a : Nat) (j : Int) : Prop := (a = 94 ∧ j = 2) ∨ (a = 94 ∧ j = 25) ∨ (a = 101)
theorem fr_X12_undo {N : Nat}  {σ : Sto} {res : Int × Sto} (hF : F_X12_undo N  σ = some res) : Fr (Wr_X12_undo) σ res.2 := by
  unfold F_X12_undo at hF
  by_cases c1 : ((upI σ 94 2 0).1 94 25) = 0
  · have hF := (if_pos c1).symm.trans hF
    obtain rfl := Option.some.inj hF
    exact (Fr_up Fr.rf (show Wr_X12_undo _ _ from (Or.inl (by omega))))
  · have hF := (if_neg c1).symm.trans hF
    obtain ⟨q2, eq2, hF⟩ := bind_some' hF
    obtain rfl := Option.some.inj hF
    exact (Fr_tr (Fr_up (Fr_up Fr.rf (show Wr_X12_undo _ _ from (Or.inl (by omega)))) (show Wr_X12_undo _ _ from (Or.inr (Or.inl (by omega))))) (Fr_mono (fr_X12_copyBank (res := q2) eq2) (fun a j h => by have h : Wr_X12_copyBank a j := h; unfold Wr_X12_copyBank at h; unfold Wr_X12_undo; (exact (Or.inr (Or.inr (by omega)))))))
def Wr_X12_keep (a : Nat) (j : Int) : Prop := (a = 94 ∧ j = 2) ∨ (a = 94 ∧ j = 26) ∨ (a = 101)
theorem fr_X12_keep {N : Nat}  {σ : Sto} {res : Int × Sto} (hF : F_X12_keep N  σ = some res) : Fr (Wr_X12_keep) σ res.2 := by
  unfold F_X12_keep at hF
  obtain ⟨q1, eq1, hF⟩ := bind_some' hF
  obtain ⟨q2, eq2, hF⟩ := bind_some' hF
  obtain rfl := Option.some.inj hF
  exact (Fr_up (Fr_tr (Fr_up Fr.rf (show Wr_X12_keep _ _ from (Or.inl (by omega)))) (Fr_mono (fr_X12_copyBank (res := q1) eq1) (fun a j h => by have h : Wr_X12_copyBank a j := h; unfold Wr_X12_copyBank at h; unfold Wr_X12_keep; (exact (Or.inr (Or.inr (by omega))))))) (show Wr_X12_keep _ _ from (Or.inr (Or.inl (by omega)))))
def Wr_X12_back (a : Nat) (j : Int) : Prop := (a = 94 ∧ j = 2) ∨ (a = 94 ∧ j = 25) ∨ (a = 101)
theorem fr_X12_back {N : Nat}  {σ : Sto} {res : Int × Sto} (hF : F_X12_back N  σ = some res) : Fr (Wr_X12_back) σ res.2 := by
  unfold F_X12_back at hF
  by_cases c1 : ((upI σ 94 2 0).1 94 26) = 0
  · have hF := (if_pos c1).symm.trans hF
    obtain rfl := Option.some.inj hF
    exact (Fr_up Fr.rf (show Wr_X12_back _ _ from (Or.inl (by omega))))
  · have hF := (if_neg c1).symm.trans hF
    obtain ⟨q2, eq2, hF⟩ := bind_some' hF
    obtain ⟨q3, eq3, hF⟩ := bind_some' hF
    obtain rfl := Option.some.inj hF
    exact (Fr_up (Fr_tr (Fr_up Fr.rf (show Wr_X12_back _ _ from (Or.inl (by omega)))) (Fr_mono (fr_X12_copyBank (res := q2) eq2) (fun a j h => by have h : Wr_X12_copyBank a j := h; unfold Wr_X12_copyBank at h; unfold Wr_X12_back; (exact (Or.inr (Or.inr (by omega))))))) (show Wr_X12_back _ _ from (Or.inr (Or.inl (by omega)))))
def Wr_X12_laysShares (a : Nat) (j : Int) : Prop := (a = 102)
theorem fr_X12_laysShares_J96 {N : Nat}  {nx2 : (Int × Sto) → Option (Sto)} {v1 : Int} {v2 : Int} {σ : Sto} {res : Sto} (hnx2 : ∀ q, nx2 q = some res → Fr (Wr_X12_laysShares) q.2 res) (hF : F_X12_laysShares_J96 N nx2 v1 v2 σ = some res) : Fr (Wr_X12_laysShares) σ res := by
  unfold F_X12_laysShares_J96 at hF
  exact Fr_tr Fr.rf (hnx2 ((ja v2 1), σ) hF)
theorem fr_X12_laysShares_J77 {N : Nat}  {nx2 : (Int × Sto) → Option (Sto)} {nx12 : (Int × Sto) → Option (Sto)} {v1 : Int} {v2 : Int} {v3 : Int} {v4 : UInt32} {σ : Sto} {res : Sto} (hnx2 : ∀ q, nx2 q = some res → Fr (Wr_X12_laysShares) q.2 res) (hnx12 : ∀ q, nx12 q = some res → Fr (Wr_X12_laysShares) q.2 res) (hF : F_X12_laysShares_J77 N nx2 nx12 v1 v2 v3 v4 σ = some res) : Fr (Wr_X12_laysShares) σ res := by
  unfold F_X12_laysShares_J77 at hF
  obtain ⟨b3, hF⟩ := inb_some hF
  exact Fr_tr (Fr_uf Fr.rf (show Wr_X12_laysShares _ _ from (by unfold Wr_X12_laysShares; omega))) (hnx12 ((ja v3 1), (upF σ 102 (ja (jm 8 v2) v3) (v4.toNat : Int))) hF)
theorem fr_X12_laysShares_B35 {N : Nat}  {nx2 : (Int × Sto) → Option (Sto)} {nx12 : (Int × Sto) → Option (Sto)} {nx35 : (UInt32 × Int) → Option (Sto)} {v1 : Int} {v2 : Int} {v3 : Int} {v4 : UInt32} {v5 : Int} {σ : Sto} {res : Sto} (hnx2 : ∀ q, nx2 q = some res → Fr (Wr_X12_laysShares) q.2 res) (hnx12 : ∀ q, nx12 q = some res → Fr (Wr_X12_laysShares) q.2 res) (hnx35 : ∀ q, nx35 q = some res → Fr (Wr_X12_laysShares) σ res) (hF : F_X12_laysShares_B35 N nx2 nx12 nx35 v1 v2 v3 v4 v5 σ = some res) : Fr (Wr_X12_laysShares) σ res := by
  unfold F_X12_laysShares_B35 at hF
  by_cases c4 : v3 ≤ v5
  · have hF := (if_pos c4).symm.trans hF
    exact fr_X12_laysShares_J77 hnx2 hnx12 hF
  · have hF := (if_neg c4).symm.trans hF
    obtain ⟨b5, hF⟩ := inb_some hF
    obtain ⟨q6, eq6, hF⟩ := bind_some' hF
    obtain ⟨n7, hF⟩ := grd_some hF
    obtain ⟨n8, hF⟩ := grd_some hF
    obtain ⟨n9, hF⟩ := grd_some hF
    exact hnx35 _ hF
theorem fr_X12_laysShares_J30 {N : Nat}  {nx2 : (Int × Sto) → Option (Sto)} {nx12 : (Int × Sto) → Option (Sto)} {v1 : Int} {v2 : Int} {v3 : Int} {t0 : UInt32} {σ : Sto} {res : Sto} (hnx2 : ∀ q, nx2 q = some res → Fr (Wr_X12_laysShares) q.2 res) (hnx12 : ∀ q, nx12 q = some res → Fr (Wr_X12_laysShares) q.2 res) (hF : F_X12_laysShares_J30 N nx2 nx12 v1 v2 v3 t0 σ = some res) : Fr (Wr_X12_laysShares) σ res := by
  unfold F_X12_laysShares_J30 at hF
  exact (loopK_ind (res := res) (P := fun (q : UInt32 × Int) => Fr (Wr_X12_laysShares) σ res) (fun nx q hn hF => fr_X12_laysShares_B35 hnx2 hnx12 hn hF) N (t0, v2) hF)
theorem fr_X12_laysShares_B12 {N : Nat}  {nx2 : (Int × Sto) → Option (Sto)} {nx12 : (Int × Sto) → Option (Sto)} {v1 : Int} {v2 : Int} {v3 : Int} {σ : Sto} {res : Sto} (hnx2 : ∀ q, nx2 q = some res → Fr (Wr_X12_laysShares) q.2 res) (hnx12 : ∀ q, nx12 q = some res → Fr (Wr_X12_laysShares) q.2 res) (hF : F_X12_laysShares_B12 N nx2 nx12 v1 v2 v3 σ = some res) : Fr (Wr_X12_laysShares) σ res := by
  unfold F_X12_laysShares_B12 at hF
  by_cases c2 : (σ.1 94 11) ≤ v3
  · have hF := (if_pos c2).symm.trans hF
    exact fr_X12_laysShares_J96 hnx2 hF
  · have hF := (if_neg c2).symm.trans hF
    by_cases c10 : v2 = v3
    · have hF := (if_pos c10).symm.trans hF
      exact fr_X12_laysShares_J30 hnx2 hnx12 hF
    · have hF := (if_neg c10).symm.trans hF
      exact fr_X12_laysShares_J30 hnx2 hnx12 hF
theorem fr_X12_laysShares_B2 {N : Nat}  {nx2 : (Int × Sto) → Option (Sto)} {v1 : Int} {v2 : Int} {σ : Sto} {res : Sto} (hnx2 : ∀ q, nx2 q = some res → Fr (Wr_X12_laysShares) q.2 res) (hF : F_X12_laysShares_B2 N nx2 v1 v2 σ = some res) : Fr (Wr_X12_laysShares) σ res := by
  unfold F_X12_laysShares_B2 at hF
  by_cases c1 : (σ.1 94 11) ≤ v2
  · have hF := (if_pos c1).symm.trans hF
    obtain rfl := Option.some.inj hF
    exact Fr.rf
  · have hF := (if_neg c1).symm.trans hF
    exact (loopK_ind (res := res) (P := fun (q : Int × Sto) => Fr (Wr_X12_laysShares) q.2 res) (fun nx q hn hF => fr_X12_laysShares_B12 hnx2 hn hF) N (0, σ) hF)
theorem fr_X12_laysShares {N : Nat} {v1 : Int} {σ : Sto} {res : Sto} (hF : F_X12_laysShares N v1 σ = some res) : Fr (Wr_X12_laysShares) σ res := by
  unfold F_X12_laysShares at hF
  exact (loopK_ind (res := res) (P := fun (q : Int × Sto) => Fr (Wr_X12_laysShares) q.2 res) (fun nx q hn hF => fr_X12_laysShares_B2 hn hF) N (0, σ) hF)
def Wr_X12_laysStretches (a : Nat) (j : Int) : Prop := (a = 94 ∧ j = 30) ∨ ((102 ≤ a ∧ a ≤ 104))
theorem fr_X12_laysStretches_J175 {N : Nat}    {σ : Sto} {res : Sto} (hF : F_X12_laysStretches_J175 N   σ = some res) : Fr (Wr_X12_laysStretches) σ res := by
  unfold F_X12_laysStretches_J175 at hF
  obtain ⟨b1, hF⟩ := inb_some hF
  obtain rfl := Option.some.inj hF
  exact (Fr_up Fr.rf (show Wr_X12_laysStretches _ _ from (Or.inr (by omega))))
theorem fr_X12_laysStretches_J170 {N : Nat}  {nx7 : (Int × Sto) → Option (Sto)} {v1 : Int} {v3 : Int} {σ : Sto} {res : Sto} (hnx7 : ∀ q, nx7 q = some res → Fr (Wr_X12_laysStretches) q.2 res) (hF : F_X12_laysStretches_J170 N nx7 v1 v3 σ = some res) : Fr (Wr_X12_laysStretches) σ res := by
  unfold F_X12_laysStretches_J170 at hF
  exact Fr_tr Fr.rf (hnx7 (v3, σ) hF)
theorem fr_X12_laysStretches_J164 {N : Nat}  {nx7 : (Int × Sto) → Option (Sto)} {nx123 : (Int × Int) → Option (Sto)} {v1 : Int} {v2 : Int} {v3 : Int} {v4 : Int} {σ : Sto} {res : Sto} (hnx7 : ∀ q, nx7 q = some res → Fr (Wr_X12_laysStretches) q.2 res) (hnx123 : ∀ q, nx123 q = some res → Fr (Wr_X12_laysStretches) σ res) (hF : F_X12_laysStretches_J164 N nx7 nx123 v1 v2 v3 v4 σ = some res) : Fr (Wr_X12_laysStretches) σ res := by
  unfold F_X12_laysStretches_J164 at hF
  exact hnx123 _ hF
theorem fr_X12_laysStretches_B123 {N : Nat}  {nx7 : (Int × Sto) → Option (Sto)} {nx123 : (Int × Int) → Option (Sto)} {v1 : Int} {v2 : Int} {v3 : Int} {v4 : Int} {σ : Sto} {res : Sto} (hnx7 : ∀ q, nx7 q = some res → Fr (Wr_X12_laysStretches) q.2 res) (hnx123 : ∀ q, nx123 q = some res → Fr (Wr_X12_laysStretches) σ res) (hF : F_X12_laysStretches_B123 N nx7 nx123 v1 v2 v3 v4 σ = some res) : Fr (Wr_X12_laysStretches) σ res := by
  unfold F_X12_laysStretches_B123 at hF
  obtain ⟨q5, eq5, hF⟩ := bind_some' hF
  by_cases c6 : q5 ≤ v4
  · have hF := (if_pos c6).symm.trans hF
    exact fr_X12_laysStretches_J170 hnx7 hF
  · have hF := (if_neg c6).symm.trans hF
    obtain ⟨q7, eq7, hF⟩ := bind_some' hF
    by_cases c8 : q7 ≤ v2
    · have hF := (if_pos c8).symm.trans hF
      exact fr_X12_laysStretches_J164 hnx7 hnx123 hF
    · have hF := (if_neg c8).symm.trans hF
      by_cases c9 : v3 ≤ q7
      · have hF := (if_pos c9).symm.trans hF
        exact fr_X12_laysStretches_J164 hnx7 hnx123 hF
      · have hF := (if_neg c9).symm.trans hF
        exact fr_X12_laysStretches_J164 hnx7 hnx123 hF
theorem fr_X12_laysStretches_J106 {N : Nat}  {nx7 : (Int × Sto) → Option (Sto)} {v1 : Int} {v2 : Int} {σ : Sto} {res : Sto} (hnx7 : ∀ q, nx7 q = some res → Fr (Wr_X12_laysStretches) q.2 res) (hF : F_X12_laysStretches_J106 N nx7 v1 v2 σ = some res) : Fr (Wr_X12_laysStretches) σ res := by
  unfold F_X12_laysStretches_J106 at hF
  exact Fr_tr (Fr_up Fr.rf (show Wr_X12_laysStretches _ _ from (Or.inl (by omega)))) (loopK_ind (res := res) (P := fun (q : Int × Int) => Fr (Wr_X12_laysStretches) (upI σ 94 30 (ja (σ.1 94 30) 1)) res) (fun nx q hn hF => fr_X12_laysStretches_B123 hnx7 hn hF) N (1000, 0) hF)
theorem fr_X12_laysStretches_J84 {N : Nat}  {nx7 : (Int × Sto) → Option (Sto)} {nx31 : (Int × Sto) → Option (Sto)} {v1 : Int} {v2 : Int} {v3 : Int} {v4 : Int} {σ : Sto} {res : Sto} (hnx7 : ∀ q, nx7 q = some res → Fr (Wr_X12_laysStretches) q.2 res) (hnx31 : ∀ q, nx31 q = some res → Fr (Wr_X12_laysStretches) q.2 res) (hF : F_X12_laysStretches_J84 N nx7 nx31 v1 v2 v3 v4 σ = some res) : Fr (Wr_X12_laysStretches) σ res := by
  unfold F_X12_laysStretches_J84 at hF
  obtain ⟨b11, hF⟩ := inb_some hF
  exact Fr_tr (Fr_up Fr.rf (show Wr_X12_laysStretches _ _ from (Or.inr (by omega)))) (hnx31 ((ja v3 1), (upI σ 104 (ja (jm 8 (σ.1 94 30)) v3) v4)) hF)
theorem fr_X12_laysStretches_J75 {N : Nat}  {nx7 : (Int × Sto) → Option (Sto)} {nx31 : (Int × Sto) → Option (Sto)} {nx45 : (Int × Int) → Option (Sto)} {v1 : Int} {v2 : Int} {v3 : Int} {v5 : Int} {t0 : Int} {t1 : Int} {σ : Sto} {res : Sto} (hnx7 : ∀ q, nx7 q = some res → Fr (Wr_X12_laysStretches) q.2 res) (hnx31 : ∀ q, nx31 q = some res → Fr (Wr_X12_laysStretches) q.2 res) (hnx45 : ∀ q, nx45 q = some res → Fr (Wr_X12_laysStretches) σ res) (hF : F_X12_laysStretches_J75 N nx7 nx31 nx45 v1 v2 v3 v5 t0 t1 σ = some res) : Fr (Wr_X12_laysStretches) σ res := by
  unfold F_X12_laysStretches_J75 at hF
  exact hnx45 _ hF
theorem fr_X12_laysStretches_B45 {N : Nat}  {nx7 : (Int × Sto) → Option (Sto)} {nx31 : (Int × Sto) → Option (Sto)} {nx45 : (Int × Int) → Option (Sto)} {v1 : Int} {v2 : Int} {v3 : Int} {v4 : Int} {v5 : Int} {σ : Sto} {res : Sto} (hnx7 : ∀ q, nx7 q = some res → Fr (Wr_X12_laysStretches) q.2 res) (hnx31 : ∀ q, nx31 q = some res → Fr (Wr_X12_laysStretches) q.2 res) (hnx45 : ∀ q, nx45 q = some res → Fr (Wr_X12_laysStretches) σ res) (hF : F_X12_laysStretches_B45 N nx7 nx31 nx45 v1 v2 v3 v4 v5 σ = some res) : Fr (Wr_X12_laysStretches) σ res := by
  unfold F_X12_laysStretches_B45 at hF
  by_cases c12 : (σ.1 94 11) ≤ v5
  · have hF := (if_pos c12).symm.trans hF
    exact fr_X12_laysStretches_J84 hnx7 hnx31 hF
  · have hF := (if_neg c12).symm.trans hF
    obtain ⟨q13, eq13, hF⟩ := bind_some' hF
    by_cases c14 : q13 = 0
    · have hF := (if_pos c14).symm.trans hF
      exact fr_X12_laysStretches_J75 hnx7 hnx31 hnx45 hF
    · have hF := (if_neg c14).symm.trans hF
      exact fr_X12_laysStretches_J75 hnx7 hnx31 hnx45 hF
theorem fr_X12_laysStretches_B31 {N : Nat}  {nx7 : (Int × Sto) → Option (Sto)} {nx31 : (Int × Sto) → Option (Sto)} {v1 : Int} {v2 : Int} {v3 : Int} {σ : Sto} {res : Sto} (hnx7 : ∀ q, nx7 q = some res → Fr (Wr_X12_laysStretches) q.2 res) (hnx31 : ∀ q, nx31 q = some res → Fr (Wr_X12_laysStretches) q.2 res) (hF : F_X12_laysStretches_B31 N nx7 nx31 v1 v2 v3 σ = some res) : Fr (Wr_X12_laysStretches) σ res := by
  unfold F_X12_laysStretches_B31 at hF
  by_cases c10 : (σ.1 94 11) ≤ v3
  · have hF := (if_pos c10).symm.trans hF
    exact fr_X12_laysStretches_J106 hnx7 hF
  · have hF := (if_neg c10).symm.trans hF
    exact (loopK_ind (res := res) (P := fun (q : Int × Int) => Fr (Wr_X12_laysStretches) σ res) (fun nx q hn hF => fr_X12_laysStretches_B45 hnx7 hnx31 hn hF) N (0, 0) hF)
theorem fr_X12_laysStretches_B7 {N : Nat}  {nx7 : (Int × Sto) → Option (Sto)} {v1 : Int} {v2 : Int} {σ : Sto} {res : Sto} (hnx7 : ∀ q, nx7 q = some res → Fr (Wr_X12_laysStretches) q.2 res) (hF : F_X12_laysStretches_B7 N nx7 v1 v2 σ = some res) : Fr (Wr_X12_laysStretches) σ res := by
  unfold F_X12_laysStretches_B7 at hF
  by_cases c2 : 1000 ≤ v2
  · have hF := (if_pos c2).symm.trans hF
    exact fr_X12_laysStretches_J175  hF
  · have hF := (if_neg c2).symm.trans hF
    obtain ⟨b3, hF⟩ := inb_some hF
    obtain ⟨q4, eq4, hF⟩ := bind_some' hF
    exact Fr_tr (Fr_tr (Fr_up Fr.rf (show Wr_X12_laysStretches _ _ from (Or.inr (by omega)))) (Fr_mono (fr_X12_laysShares (res := q4) eq4) (fun a j h => by have h : Wr_X12_laysShares a j := h; unfold Wr_X12_laysShares at h; unfold Wr_X12_laysStretches; (exact (Or.inr (by omega)))))) (loopK_ind (res := res) (P := fun (q : Int × Sto) => Fr (Wr_X12_laysStretches) q.2 res) (fun nx q hn hF => fr_X12_laysStretches_B31 hnx7 hn hF) N (0, q4) hF)
theorem fr_X12_laysStretches {N : Nat} {v1 : Int} {σ : Sto} {res : Sto} (hF : F_X12_laysStretches N v1 σ = some res) : Fr (Wr_X12_laysStretches) σ res := by
  unfold F_X12_laysStretches at hF
  exact Fr_tr (Fr_up Fr.rf (show Wr_X12_laysStretches _ _ from (Or.inl (by omega)))) (loopK_ind (res := res) (P := fun (q : Int × Sto) => Fr (Wr_X12_laysStretches) q.2 res) (fun nx q hn hF => fr_X12_laysStretches_B7 hn hF) N (0, (upI σ 94 30 0)) hF)
def Wr_X12_laysAll (a : Nat) (j : Int) : Prop := (a = 94 ∧ j = 30) ∨ ((102 ≤ a ∧ a ≤ 106))
theorem fr_X12_laysAll_J168 {N : Nat}  {nx7 : (Int × Sto) → Option (Sto)} {v2 : Int} {v3 : Int} {σ : Sto} {res : Sto} (hnx7 : ∀ q, nx7 q = some res → Fr (Wr_X12_laysAll) q.2 res) (hF : F_X12_laysAll_J168 N nx7 v2 v3 σ = some res) : Fr (Wr_X12_laysAll) σ res := by
  unfold F_X12_laysAll_J168 at hF
  exact Fr_tr Fr.rf (hnx7 ((ja v3 1), σ) hF)
theorem fr_X12_laysAll_J161 {N : Nat}  {nx7 : (Int × Sto) → Option (Sto)} {nx86 : (Int × Sto) → Option (Sto)} {v2 : Int} {v3 : Int} {v4 : Int} {v5 : Int} {t1 : Int} {t2 : Int} {σ : Sto} {res : Sto} (hnx7 : ∀ q, nx7 q = some res → Fr (Wr_X12_laysAll) q.2 res) (hnx86 : ∀ q, nx86 q = some res → Fr (Wr_X12_laysAll) q.2 res) (hF : F_X12_laysAll_J161 N nx7 nx86 v2 v3 v4 v5 t1 t2 σ = some res) : Fr (Wr_X12_laysAll) σ res := by
  unfold F_X12_laysAll_J161 at hF
  obtain ⟨b5, hF⟩ := inb_some hF
  exact Fr_tr (Fr_up Fr.rf (show Wr_X12_laysAll _ _ from (Or.inr (by omega)))) (hnx86 ((ja v5 1), (upI σ 106 t1 t2)) hF)
theorem fr_X12_laysAll_J160 {N : Nat}  {nx7 : (Int × Sto) → Option (Sto)} {nx86 : (Int × Sto) → Option (Sto)} {v2 : Int} {v3 : Int} {v4 : Int} {v5 : Int} {t1 : Int} {σ : Sto} {res : Sto} (hnx7 : ∀ q, nx7 q = some res → Fr (Wr_X12_laysAll) q.2 res) (hnx86 : ∀ q, nx86 q = some res → Fr (Wr_X12_laysAll) q.2 res) (hF : F_X12_laysAll_J160 N nx7 nx86 v2 v3 v4 v5 t1 σ = some res) : Fr (Wr_X12_laysAll) σ res := by
  unfold F_X12_laysAll_J160 at hF
  exact fr_X12_laysAll_J161 hnx7 hnx86 hF
theorem fr_X12_laysAll_J156 {N : Nat}  {nx7 : (Int × Sto) → Option (Sto)} {nx86 : (Int × Sto) → Option (Sto)} {v2 : Int} {v3 : Int} {v4 : Int} {v5 : Int} {t1 : Int} {t2 : Int} {t3 : Int} {σ : Sto} {res : Sto} (hnx7 : ∀ q, nx7 q = some res → Fr (Wr_X12_laysAll) q.2 res) (hnx86 : ∀ q, nx86 q = some res → Fr (Wr_X12_laysAll) q.2 res) (hF : F_X12_laysAll_J156 N nx7 nx86 v2 v3 v4 v5 t1 t2 t3 σ = some res) : Fr (Wr_X12_laysAll) σ res := by
  unfold F_X12_laysAll_J156 at hF
  exact fr_X12_laysAll_J161 hnx7 hnx86 hF
theorem fr_X12_laysAll_B86 {N : Nat}  {nx7 : (Int × Sto) → Option (Sto)} {nx86 : (Int × Sto) → Option (Sto)} {v2 : Int} {v3 : Int} {v4 : Int} {v5 : Int} {σ : Sto} {res : Sto} (hnx7 : ∀ q, nx7 q = some res → Fr (Wr_X12_laysAll) q.2 res) (hnx86 : ∀ q, nx86 q = some res → Fr (Wr_X12_laysAll) q.2 res) (hF : F_X12_laysAll_B86 N nx7 nx86 v2 v3 v4 v5 σ = some res) : Fr (Wr_X12_laysAll) σ res := by
  unfold F_X12_laysAll_B86 at hF
  by_cases c4 : (σ.1 94 14) ≤ v5
  · have hF := (if_pos c4).symm.trans hF
    exact fr_X12_laysAll_J168 hnx7 hF
  · have hF := (if_neg c4).symm.trans hF
    by_cases c6 : v4 = 0
    · have hF := (if_pos c6).symm.trans hF
      exact fr_X12_laysAll_J160 hnx7 hnx86 hF
    · have hF := (if_neg c6).symm.trans hF
      obtain ⟨q7, eq7, hF⟩ := bind_some' hF
      by_cases c8 : q7 = (σ.1 94 38)
      · have hF := (if_pos c8).symm.trans hF
        exact fr_X12_laysAll_J160 hnx7 hnx86 hF
      · have hF := (if_neg c8).symm.trans hF
        obtain ⟨q9, eq9, hF⟩ := bind_some' hF
        by_cases c10 : q9 = 0
        · have hF := (if_pos c10).symm.trans hF
          exact fr_X12_laysAll_J160 hnx7 hnx86 hF
        · have hF := (if_neg c10).symm.trans hF
          obtain ⟨q11, eq11, hF⟩ := bind_some' hF
          by_cases c12 : v2 = 0
          · have hF := (if_pos c12).symm.trans hF
            exact fr_X12_laysAll_J156 hnx7 hnx86 hF
          · have hF := (if_neg c12).symm.trans hF
            obtain ⟨q13, eq13, hF⟩ := bind_some' hF
            exact fr_X12_laysAll_J156 hnx7 hnx86 hF
theorem fr_X12_laysAll_J82 {N : Nat}  {nx7 : (Int × Sto) → Option (Sto)} {v2 : Int} {v3 : Int} {v4 : Int} {t1 : Int} {t2 : Int} {σ : Sto} {res : Sto} (hnx7 : ∀ q, nx7 q = some res → Fr (Wr_X12_laysAll) q.2 res) (hF : F_X12_laysAll_J82 N nx7 v2 v3 v4 t1 t2 σ = some res) : Fr (Wr_X12_laysAll) σ res := by
  unfold F_X12_laysAll_J82 at hF
  obtain ⟨b3, hF⟩ := inb_some hF
  exact Fr_tr (Fr_up Fr.rf (show Wr_X12_laysAll _ _ from (Or.inr (by omega)))) (loopK_ind (res := res) (P := fun (q : Int × Sto) => Fr (Wr_X12_laysAll) q.2 res) (fun nx q hn hF => fr_X12_laysAll_B86 hnx7 hn hF) N (0, (upI σ 105 t1 t2)) hF)
theorem fr_X12_laysAll_J32 {N : Nat}  {nx7 : (Int × Sto) → Option (Sto)} {v2 : Int} {v3 : Int} {t0 : Int} {σ : Sto} {res : Sto} (hnx7 : ∀ q, nx7 q = some res → Fr (Wr_X12_laysAll) q.2 res) (hF : F_X12_laysAll_J32 N nx7 v2 v3 t0 σ = some res) : Fr (Wr_X12_laysAll) σ res := by
  unfold F_X12_laysAll_J32 at hF
  by_cases c14 : t0 = 0
  · have hF := (if_pos c14).symm.trans hF
    exact fr_X12_laysAll_J82 hnx7 hF
  · have hF := (if_neg c14).symm.trans hF
    by_cases c15 : v2 = 0
    · have hF := (if_pos c15).symm.trans hF
      obtain ⟨q16, eq16, hF⟩ := bind_some' hF
      by_cases c17 : 0 ≤ q16
      · have hF := (if_pos c17).symm.trans hF
        obtain ⟨q18, eq18, hF⟩ := bind_some' hF
        exact fr_X12_laysAll_J82 hnx7 hF
      · have hF := (if_neg c17).symm.trans hF
        obtain ⟨q19, eq19, hF⟩ := bind_some' hF
        exact fr_X12_laysAll_J82 hnx7 hF
    · have hF := (if_neg c15).symm.trans hF
      obtain ⟨q20, eq20, hF⟩ := bind_some' hF
      exact fr_X12_laysAll_J82 hnx7 hF
theorem fr_X12_laysAll_B7 {N : Nat}  {nx7 : (Int × Sto) → Option (Sto)} {v2 : Int} {v3 : Int} {σ : Sto} {res : Sto} (hnx7 : ∀ q, nx7 q = some res → Fr (Wr_X12_laysAll) q.2 res) (hF : F_X12_laysAll_B7 N nx7 v2 v3 σ = some res) : Fr (Wr_X12_laysAll) σ res := by
  unfold F_X12_laysAll_B7 at hF
  by_cases c2 : (σ.1 94 14) ≤ v3
  · have hF := (if_pos c2).symm.trans hF
    obtain rfl := Option.some.inj hF
    exact Fr.rf
  · have hF := (if_neg c2).symm.trans hF
    obtain ⟨q21, eq21, hF⟩ := bind_some' hF
    by_cases c22 : q21 = (σ.1 94 38)
    · have hF := (if_pos c22).symm.trans hF
      exact fr_X12_laysAll_J32 hnx7 hF
    · have hF := (if_neg c22).symm.trans hF
      exact fr_X12_laysAll_J32 hnx7 hF
theorem fr_X12_laysAll {N : Nat} {v1 : Int} {v2 : Int} {σ : Sto} {res : Sto} (hF : F_X12_laysAll N v1 v2 σ = some res) : Fr (Wr_X12_laysAll) σ res := by
  unfold F_X12_laysAll at hF
  obtain ⟨q1, eq1, hF⟩ := bind_some' hF
  exact Fr_tr (Fr_tr Fr.rf (Fr_mono (fr_X12_laysStretches (res := q1) eq1) (fun a j h => by
      unfold Wr_X12_laysStretches at h
      unfold Wr_X12_laysAll
      rcases h with h | h
      · exact (Or.inl (by omega))
      · exact (Or.inr (by omega))))) (loopK_ind (res := res) (P := fun (q : Int × Sto) => Fr (Wr_X12_laysAll) q.2 res) (fun nx q hn hF => fr_X12_laysAll_B7 hn hF) N (0, q1) hF)
def Wr_X12_goes (a : Nat) (j : Int) : Prop := ((108 ≤ a ∧ a ≤ 110))
theorem fr_X12_goes_J119 {N : Nat}   {v1 : Int} {v2 : Int} {σ : Sto} {res : Int × Sto} (hF : F_X12_goes_J119 N  v1 v2 σ = some res) : Fr (Wr_X12_goes) σ res.2 := by
  unfold F_X12_goes_J119 at hF
  obtain ⟨b7, hF⟩ := inb_some hF
  obtain ⟨b8, hF⟩ := inb_some hF
  obtain rfl := Option.some.inj hF
  exact (Fr_up Fr.rf (show Wr_X12_goes _ _ from (by unfold Wr_X12_goes; omega)))
theorem fr_X12_goes_B78 {N : Nat}  {nx78 : (Int × Sto) → Option (Int × Sto)} {v1 : Int} {v2 : Int} {v4 : Int} {σ : Sto} {res : Int × Sto} (hnx78 : ∀ q, nx78 q = some res → Fr (Wr_X12_goes) q.2 res.2) (hF : F_X12_goes_B78 N nx78 v1 v2 v4 σ = some res) : Fr (Wr_X12_goes) σ res.2 := by
  unfold F_X12_goes_B78 at hF
  obtain ⟨b9, hF⟩ := inb_some hF
  by_cases c10 : (σ.1 109 v1) ≤ v4
  · have hF := (if_pos c10).symm.trans hF
    exact fr_X12_goes_J119  hF
  · have hF := (if_neg c10).symm.trans hF
    obtain ⟨b11, hF⟩ := inb_some hF
    obtain ⟨b12, hF⟩ := inb_some hF
    exact Fr_tr (Fr_up Fr.rf (show Wr_X12_goes _ _ from (by unfold Wr_X12_goes; omega))) (hnx78 ((ja v4 1), (upI σ 110 (ja (jm 12 v2) v4) (σ.1 110 (ja (jm 12 v1) v4)))) hF)
theorem fr_X12_goes {N : Nat} {v1 : Int} {v2 : Int} {v3 : Int} {σ : Sto} {res : Int × Sto} (hF : F_X12_goes N v1 v2 v3 σ = some res) : Fr (Wr_X12_goes) σ res.2 := by
  unfold F_X12_goes at hF
  obtain ⟨b1, hF⟩ := inb_some hF
  by_cases c2 : (σ.1 109 v1) = 0
  · have hF := (if_pos c2).symm.trans hF
    obtain rfl := Option.some.inj hF
    exact Fr.rf
  · have hF := (if_neg c2).symm.trans hF
    by_cases c3 : (σ.1 109 v1) = 12
    · have hF := (if_pos c3).symm.trans hF
      obtain rfl := Option.some.inj hF
      exact Fr.rf
    · have hF := (if_neg c3).symm.trans hF
      obtain ⟨q4, eq4, hF⟩ := bind_some' hF
      by_cases c5 : q4 = 0
      · have hF := (if_pos c5).symm.trans hF
        obtain rfl := Option.some.inj hF
        exact Fr.rf
      · have hF := (if_neg c5).symm.trans hF
        obtain ⟨b6, hF⟩ := inb_some hF
        exact Fr_tr (Fr_up (Fr_up Fr.rf (show Wr_X12_goes _ _ from (by unfold Wr_X12_goes; omega))) (show Wr_X12_goes _ _ from (by unfold Wr_X12_goes; omega))) (loopK_ind (res := res) (P := fun (q : Int × Sto) => Fr (Wr_X12_goes) q.2 res.2) (fun nx q hn hF => fr_X12_goes_B78 hn hF) N (0, (upI (upI σ 108 v2 (ja (σ.1 108 v1) v3)) 109 v2 (ja ((upI σ 108 v2 (ja (σ.1 108 v1) v3)).1 109 v1) 1))) hF)
def Wr_X12_laysRoutes (a : Nat) (j : Int) : Prop := ((108 ≤ a ∧ a ≤ 110))
theorem fr_X12_laysRoutes_J164 {N : Nat}  {nx63 : (Int × Sto) → Option (Sto)} {v1 : Int} {σ : Sto} {res : Sto} (hnx63 : ∀ q, nx63 q = some res → Fr (Wr_X12_laysRoutes) q.2 res) (hF : F_X12_laysRoutes_J164 N nx63 v1 σ = some res) : Fr (Wr_X12_laysRoutes) σ res := by
  unfold F_X12_laysRoutes_J164 at hF
  exact Fr_tr Fr.rf (hnx63 (v1, σ) hF)
theorem fr_X12_laysRoutes_J158 {N : Nat}  {nx63 : (Int × Sto) → Option (Sto)} {nx71 : (Int × Int × Sto) → Option (Sto)} {v1 : Int} {v2 : Int} {σ : Sto} {res : Sto} (hnx63 : ∀ q, nx63 q = some res → Fr (Wr_X12_laysRoutes) q.2 res) (hnx71 : ∀ q, nx71 q = some res → Fr (Wr_X12_laysRoutes) q.2.2 res) (hF : F_X12_laysRoutes_J158 N nx63 nx71 v1 v2 σ = some res) : Fr (Wr_X12_laysRoutes) σ res := by
  unfold F_X12_laysRoutes_J158 at hF
  exact Fr_tr Fr.rf (hnx71 (v1, (ja v2 1), σ) hF)
theorem fr_X12_laysRoutes_J152 {N : Nat}  {nx63 : (Int × Sto) → Option (Sto)} {nx71 : (Int × Int × Sto) → Option (Sto)} {nx81 : (Int × Int × Sto) → Option (Sto)} {v1 : Int} {v2 : Int} {v3 : Int} {σ : Sto} {res : Sto} (hnx63 : ∀ q, nx63 q = some res → Fr (Wr_X12_laysRoutes) q.2 res) (hnx71 : ∀ q, nx71 q = some res → Fr (Wr_X12_laysRoutes) q.2.2 res) (hnx81 : ∀ q, nx81 q = some res → Fr (Wr_X12_laysRoutes) q.2.2 res) (hF : F_X12_laysRoutes_J152 N nx63 nx71 nx81 v1 v2 v3 σ = some res) : Fr (Wr_X12_laysRoutes) σ res := by
  unfold F_X12_laysRoutes_J152 at hF
  exact Fr_tr Fr.rf (hnx81 (v1, (ja v3 1), σ) hF)
theorem fr_X12_laysRoutes_J120 {N : Nat}  {nx63 : (Int × Sto) → Option (Sto)} {nx71 : (Int × Int × Sto) → Option (Sto)} {nx81 : (Int × Int × Sto) → Option (Sto)} {v1 : Int} {v2 : Int} {v3 : Int} {σ : Sto} {res : Sto} (hnx63 : ∀ q, nx63 q = some res → Fr (Wr_X12_laysRoutes) q.2 res) (hnx71 : ∀ q, nx71 q = some res → Fr (Wr_X12_laysRoutes) q.2.2 res) (hnx81 : ∀ q, nx81 q = some res → Fr (Wr_X12_laysRoutes) q.2.2 res) (hF : F_X12_laysRoutes_J120 N nx63 nx71 nx81 v1 v2 v3 σ = some res) : Fr (Wr_X12_laysRoutes) σ res := by
  unfold F_X12_laysRoutes_J120 at hF
  obtain ⟨b4, hF⟩ := inb_some hF
  by_cases c5 : (σ.1 107 (ja (jm 12 v2) v3)) ≤ 0
  · have hF := (if_pos c5).symm.trans hF
    exact fr_X12_laysRoutes_J152 hnx63 hnx71 hnx81 hF
  · have hF := (if_neg c5).symm.trans hF
    obtain ⟨q6, eq6, hF⟩ := bind_some' hF
    obtain ⟨q7, eq7, hF⟩ := bind_some' hF
    by_cases c8 : q7.1 = 0
    · have hF := (if_pos c8).symm.trans hF
      exact Fr_tr (Fr_tr Fr.rf (Fr_mono (fr_X12_goes (res := q7) eq7) (fun a j h => by have h : Wr_X12_goes a j := h; unfold Wr_X12_goes at h; unfold Wr_X12_laysRoutes; (exact (by omega))))) (fr_X12_laysRoutes_J152 hnx63 hnx71 hnx81 hF)
    · have hF := (if_neg c8).symm.trans hF
      exact Fr_tr (Fr_tr Fr.rf (Fr_mono (fr_X12_goes (res := q7) eq7) (fun a j h => by have h : Wr_X12_goes a j := h; unfold Wr_X12_goes at h; unfold Wr_X12_laysRoutes; (exact (by omega))))) (fr_X12_laysRoutes_J152 hnx63 hnx71 hnx81 hF)
theorem fr_X12_laysRoutes_B81 {N : Nat}  {nx63 : (Int × Sto) → Option (Sto)} {nx71 : (Int × Int × Sto) → Option (Sto)} {nx81 : (Int × Int × Sto) → Option (Sto)} {v2 : Int} {v1 : Int} {v3 : Int} {σ : Sto} {res : Sto} (hnx63 : ∀ q, nx63 q = some res → Fr (Wr_X12_laysRoutes) q.2 res) (hnx71 : ∀ q, nx71 q = some res → Fr (Wr_X12_laysRoutes) q.2.2 res) (hnx81 : ∀ q, nx81 q = some res → Fr (Wr_X12_laysRoutes) q.2.2 res) (hF : F_X12_laysRoutes_B81 N nx63 nx71 nx81 v2 v1 v3 σ = some res) : Fr (Wr_X12_laysRoutes) σ res := by
  unfold F_X12_laysRoutes_B81 at hF
  by_cases c3 : (σ.1 94 14) ≤ v3
  · have hF := (if_pos c3).symm.trans hF
    exact fr_X12_laysRoutes_J158 hnx63 hnx71 hF
  · have hF := (if_neg c3).symm.trans hF
    obtain ⟨b9, hF⟩ := inb_some hF
    by_cases c10 : (σ.1 106 (ja (jm 12 v2) v3)) ≤ 0
    · have hF := (if_pos c10).symm.trans hF
      exact fr_X12_laysRoutes_J120 hnx63 hnx71 hnx81 hF
    · have hF := (if_neg c10).symm.trans hF
      obtain ⟨q11, eq11, hF⟩ := bind_some' hF
      obtain ⟨q12, eq12, hF⟩ := bind_some' hF
      by_cases c13 : q12.1 = 0
      · have hF := (if_pos c13).symm.trans hF
        exact Fr_tr (Fr_tr Fr.rf (Fr_mono (fr_X12_goes (res := q12) eq12) (fun a j h => by have h : Wr_X12_goes a j := h; unfold Wr_X12_goes at h; unfold Wr_X12_laysRoutes; (exact (by omega))))) (fr_X12_laysRoutes_J120 hnx63 hnx71 hnx81 hF)
      · have hF := (if_neg c13).symm.trans hF
        exact Fr_tr (Fr_tr Fr.rf (Fr_mono (fr_X12_goes (res := q12) eq12) (fun a j h => by have h : Wr_X12_goes a j := h; unfold Wr_X12_goes at h; unfold Wr_X12_laysRoutes; (exact (by omega))))) (fr_X12_laysRoutes_J120 hnx63 hnx71 hnx81 hF)
theorem fr_X12_laysRoutes_B71 {N : Nat}  {nx63 : (Int × Sto) → Option (Sto)} {nx71 : (Int × Int × Sto) → Option (Sto)} {v1 : Int} {v2 : Int} {σ : Sto} {res : Sto} (hnx63 : ∀ q, nx63 q = some res → Fr (Wr_X12_laysRoutes) q.2 res) (hnx71 : ∀ q, nx71 q = some res → Fr (Wr_X12_laysRoutes) q.2.2 res) (hF : F_X12_laysRoutes_B71 N nx63 nx71 v1 v2 σ = some res) : Fr (Wr_X12_laysRoutes) σ res := by
  unfold F_X12_laysRoutes_B71 at hF
  by_cases c2 : (σ.1 94 14) ≤ v2
  · have hF := (if_pos c2).symm.trans hF
    exact fr_X12_laysRoutes_J164 hnx63 hF
  · have hF := (if_neg c2).symm.trans hF
    exact (loopK_ind (res := res) (P := fun (q : Int × Int × Sto) => Fr (Wr_X12_laysRoutes) q.2.2 res) (fun nx q hn hF => fr_X12_laysRoutes_B81 hnx63 hnx71 hn hF) N (v1, 0, σ) hF)
theorem fr_X12_laysRoutes_B63 {N : Nat}  {nx63 : (Int × Sto) → Option (Sto)} {v1 : Int} {σ : Sto} {res : Sto} (hnx63 : ∀ q, nx63 q = some res → Fr (Wr_X12_laysRoutes) q.2 res) (hF : F_X12_laysRoutes_B63 N nx63 v1 σ = some res) : Fr (Wr_X12_laysRoutes) σ res := by
  unfold F_X12_laysRoutes_B63 at hF
  by_cases c1 : v1 = 0
  · have hF := (if_pos c1).symm.trans hF
    obtain rfl := Option.some.inj hF
    exact Fr.rf
  · have hF := (if_neg c1).symm.trans hF
    exact (loopK_ind (res := res) (P := fun (q : Int × Int × Sto) => Fr (Wr_X12_laysRoutes) q.2.2 res) (fun nx q hn hF => fr_X12_laysRoutes_B71 hnx63 hn hF) N (0, 0, σ) hF)
theorem fr_X12_laysRoutes_J61 {N : Nat}    {σ : Sto} {res : Sto} (hF : F_X12_laysRoutes_J61 N   σ = some res) : Fr (Wr_X12_laysRoutes) σ res := by
  unfold F_X12_laysRoutes_J61 at hF
  exact (loopK_ind (res := res) (P := fun (q : Int × Sto) => Fr (Wr_X12_laysRoutes) q.2 res) (fun nx q hn hF => fr_X12_laysRoutes_B63 hn hF) N (1, σ) hF)
theorem fr_X12_laysRoutes_J37 {N : Nat}  {nx2 : (Int × Sto) → Option (Sto)} {v1 : Int} {t1 : Int} {t2 : Int} {σ : Sto} {res : Sto} (hnx2 : ∀ q, nx2 q = some res → Fr (Wr_X12_laysRoutes) q.2 res) (hF : F_X12_laysRoutes_J37 N nx2 v1 t1 t2 σ = some res) : Fr (Wr_X12_laysRoutes) σ res := by
  unfold F_X12_laysRoutes_J37 at hF
  obtain ⟨b15, hF⟩ := inb_some hF
  obtain ⟨b16, hF⟩ := inb_some hF
  obtain ⟨b17, hF⟩ := inb_some hF
  exact Fr_tr (Fr_up (Fr_up (Fr_up Fr.rf (show Wr_X12_laysRoutes _ _ from (by unfold Wr_X12_laysRoutes; omega))) (show Wr_X12_laysRoutes _ _ from (by unfold Wr_X12_laysRoutes; omega))) (show Wr_X12_laysRoutes _ _ from (by unfold Wr_X12_laysRoutes; omega))) (hnx2 ((ja v1 1), (upI (upI (upI σ 109 t1 t2) 108 v1 0) 110 (jm 12 v1) v1)) hF)
theorem fr_X12_laysRoutes_J36 {N : Nat}  {nx2 : (Int × Sto) → Option (Sto)} {v1 : Int} {t1 : Int} {σ : Sto} {res : Sto} (hnx2 : ∀ q, nx2 q = some res → Fr (Wr_X12_laysRoutes) q.2 res) (hF : F_X12_laysRoutes_J36 N nx2 v1 t1 σ = some res) : Fr (Wr_X12_laysRoutes) σ res := by
  unfold F_X12_laysRoutes_J36 at hF
  exact fr_X12_laysRoutes_J37 hnx2 hF
theorem fr_X12_laysRoutes_B2 {N : Nat}  {nx2 : (Int × Sto) → Option (Sto)} {v1 : Int} {σ : Sto} {res : Sto} (hnx2 : ∀ q, nx2 q = some res → Fr (Wr_X12_laysRoutes) q.2 res) (hF : F_X12_laysRoutes_B2 N nx2 v1 σ = some res) : Fr (Wr_X12_laysRoutes) σ res := by
  unfold F_X12_laysRoutes_B2 at hF
  by_cases c14 : (σ.1 94 14) ≤ v1
  · have hF := (if_pos c14).symm.trans hF
    exact fr_X12_laysRoutes_J61  hF
  · have hF := (if_neg c14).symm.trans hF
    obtain ⟨q18, eq18, hF⟩ := bind_some' hF
    by_cases c19 : 0 ≤ q18
    · have hF := (if_pos c19).symm.trans hF
      exact fr_X12_laysRoutes_J36 hnx2 hF
    · have hF := (if_neg c19).symm.trans hF
      obtain ⟨b20, hF⟩ := inb_some hF
      by_cases c21 : (σ.1 105 v1) ≤ 0
      · have hF := (if_pos c21).symm.trans hF
        exact fr_X12_laysRoutes_J36 hnx2 hF
      · have hF := (if_neg c21).symm.trans hF
        exact fr_X12_laysRoutes_J37 hnx2 hF
theorem fr_X12_laysRoutes {N : Nat}  {σ : Sto} {res : Sto} (hF : F_X12_laysRoutes N  σ = some res) : Fr (Wr_X12_laysRoutes) σ res := by
  unfold F_X12_laysRoutes at hF
  exact (loopK_ind (res := res) (P := fun (q : Int × Sto) => Fr (Wr_X12_laysRoutes) q.2 res) (fun nx q hn hF => fr_X12_laysRoutes_B2 hn hF) N (0, σ) hF)
def Wr_X12_relieves (a : Nat) (j : Int) : Prop := (a = 94 ∧ j = 37) ∨ ((105 ≤ a ∧ a ≤ 110))
theorem fr_X12_relieves_J315 {N : Nat}  {nx29 : (Int × Sto) → Option (Int × Sto)} {v1 : Int} {v2 : Int} {v3 : Int} {v4 : Int} {σ : Sto} {res : Int × Sto} (hnx29 : ∀ q, nx29 q = some res → Fr (Wr_X12_relieves) q.2 res.2) (hF : F_X12_relieves_J315 N nx29 v1 v2 v3 v4 σ = some res) : Fr (Wr_X12_relieves) σ res.2 := by
  unfold F_X12_relieves_J315 at hF
  obtain ⟨b4, hF⟩ := inb_some hF
  obtain ⟨b5, hF⟩ := inb_some hF
  exact Fr_tr (Fr_up (Fr_up (Fr_up Fr.rf (show Wr_X12_relieves _ _ from (Or.inr (by omega)))) (show Wr_X12_relieves _ _ from (Or.inr (by omega)))) (show Wr_X12_relieves _ _ from (Or.inl (by omega)))) (hnx29 ((ja v1 v4), (upI (upI (upI σ 105 v3 (js (σ.1 105 v3) v4)) 105 v2 (js ((upI σ 105 v3 (js (σ.1 105 v3) v4)).1 105 v2) v4)) 94 37 (ja ((upI (upI σ 105 v3 (js (σ.1 105 v3) v4)) 105 v2 (js ((upI σ 105 v3 (js (σ.1 105 v3) v4)).1 105 v2) v4)).1 94 37) 1))) hF)
theorem fr_X12_relieves_J283 {N : Nat}  {nx29 : (Int × Sto) → Option (Int × Sto)} {nx195 : (Int × Sto) → Option (Int × Sto)} {v1 : Int} {v2 : Int} {v3 : Int} {v4 : Int} {v5 : Int} {v8 : Int} {t0 : Int} {σ : Sto} {res : Int × Sto} (hnx29 : ∀ q, nx29 q = some res → Fr (Wr_X12_relieves) q.2 res.2) (hnx195 : ∀ q, nx195 q = some res → Fr (Wr_X12_relieves) q.2 res.2) (hF : F_X12_relieves_J283 N nx29 nx195 v1 v2 v3 v4 v5 v8 t0 σ = some res) : Fr (Wr_X12_relieves) σ res.2 := by
  unfold F_X12_relieves_J283 at hF
  obtain ⟨b8, hF⟩ := inb_some hF
  exact Fr_tr (Fr_up (Fr_up Fr.rf (show Wr_X12_relieves _ _ from (Or.inr (by omega)))) (show Wr_X12_relieves _ _ from (Or.inr (by omega)))) (hnx195 ((ja v5 1), (upI (upI σ 107 v8 (ja (σ.1 107 v8) t0)) 106 v8 (js ((upI σ 107 v8 (ja (σ.1 107 v8) t0)).1 106 v8) t0))) hF)
theorem fr_X12_relieves_J264 {N : Nat}  {nx29 : (Int × Sto) → Option (Int × Sto)} {nx195 : (Int × Sto) → Option (Int × Sto)} {v1 : Int} {v2 : Int} {v3 : Int} {v4 : Int} {v5 : Int} {v6 : Int} {t0 : Int} {σ : Sto} {res : Int × Sto} (hnx29 : ∀ q, nx29 q = some res → Fr (Wr_X12_relieves) q.2 res.2) (hnx195 : ∀ q, nx195 q = some res → Fr (Wr_X12_relieves) q.2 res.2) (hF : F_X12_relieves_J264 N nx29 nx195 v1 v2 v3 v4 v5 v6 t0 σ = some res) : Fr (Wr_X12_relieves) σ res.2 := by
  unfold F_X12_relieves_J264 at hF
  obtain ⟨q9, eq9, hF⟩ := bind_some' hF
  by_cases c10 : 0 ≤ q9
  · have hF := (if_pos c10).symm.trans hF
    exact fr_X12_relieves_J283 hnx29 hnx195 hF
  · have hF := (if_neg c10).symm.trans hF
    exact fr_X12_relieves_J283 hnx29 hnx195 hF
theorem fr_X12_relieves_B195 {N : Nat}  {nx29 : (Int × Sto) → Option (Int × Sto)} {nx195 : (Int × Sto) → Option (Int × Sto)} {v1 : Int} {v2 : Int} {v3 : Int} {v4 : Int} {v5 : Int} {σ : Sto} {res : Int × Sto} (hnx29 : ∀ q, nx29 q = some res → Fr (Wr_X12_relieves) q.2 res.2) (hnx195 : ∀ q, nx195 q = some res → Fr (Wr_X12_relieves) q.2 res.2) (hF : F_X12_relieves_B195 N nx29 nx195 v1 v2 v3 v4 v5 σ = some res) : Fr (Wr_X12_relieves) σ res.2 := by
  unfold F_X12_relieves_B195 at hF
  obtain ⟨b6, hF⟩ := inb_some hF
  by_cases c7 : (σ.1 109 v2) ≤ v5
  · have hF := (if_pos c7).symm.trans hF
    exact fr_X12_relieves_J315 hnx29 hF
  · have hF := (if_neg c7).symm.trans hF
    obtain ⟨b11, hF⟩ := inb_some hF
    obtain ⟨b12, hF⟩ := inb_some hF
    obtain ⟨q13, eq13, hF⟩ := bind_some' hF
    by_cases c14 : 0 ≤ q13
    · have hF := (if_pos c14).symm.trans hF
      exact fr_X12_relieves_J264 hnx29 hnx195 hF
    · have hF := (if_neg c14).symm.trans hF
      exact fr_X12_relieves_J264 hnx29 hnx195 hF
theorem fr_X12_relieves_J192 {N : Nat}  {nx29 : (Int × Sto) → Option (Int × Sto)} {v1 : Int} {v2 : Int} {v3 : Int} {v4 : Int} {σ : Sto} {res : Int × Sto} (hnx29 : ∀ q, nx29 q = some res → Fr (Wr_X12_relieves) q.2 res.2) (hF : F_X12_relieves_J192 N nx29 v1 v2 v3 v4 σ = some res) : Fr (Wr_X12_relieves) σ res.2 := by
  unfold F_X12_relieves_J192 at hF
  exact (loopK_ind (res := res) (P := fun (q : Int × Sto) => Fr (Wr_X12_relieves) q.2 res.2) (fun nx q hn hF => fr_X12_relieves_B195 hnx29 hn hF) N (1, σ) hF)
theorem fr_X12_relieves_J184 {N : Nat}  {nx29 : (Int × Sto) → Option (Int × Sto)} {nx89 : (Int × Int) → Option (Int × Sto)} {v1 : Int} {v2 : Int} {v3 : Int} {v5 : Int} {t0 : Int} {σ : Sto} {res : Int × Sto} (hnx29 : ∀ q, nx29 q = some res → Fr (Wr_X12_relieves) q.2 res.2) (hnx89 : ∀ q, nx89 q = some res → Fr (Wr_X12_relieves) σ res.2) (hF : F_X12_relieves_J184 N nx29 nx89 v1 v2 v3 v5 t0 σ = some res) : Fr (Wr_X12_relieves) σ res.2 := by
  unfold F_X12_relieves_J184 at hF
  exact hnx89 _ hF
theorem fr_X12_relieves_J168 {N : Nat}  {nx29 : (Int × Sto) → Option (Int × Sto)} {nx89 : (Int × Int) → Option (Int × Sto)} {v1 : Int} {v2 : Int} {v3 : Int} {v4 : Int} {v5 : Int} {t0 : Int} {σ : Sto} {res : Int × Sto} (hnx29 : ∀ q, nx29 q = some res → Fr (Wr_X12_relieves) q.2 res.2) (hnx89 : ∀ q, nx89 q = some res → Fr (Wr_X12_relieves) σ res.2) (hF : F_X12_relieves_J168 N nx29 nx89 v1 v2 v3 v4 v5 t0 σ = some res) : Fr (Wr_X12_relieves) σ res.2 := by
  unfold F_X12_relieves_J168 at hF
  by_cases c17 : v4 ≤ t0
  · have hF := (if_pos c17).symm.trans hF
    exact fr_X12_relieves_J184 hnx29 hnx89 hF
  · have hF := (if_neg c17).symm.trans hF
    exact fr_X12_relieves_J184 hnx29 hnx89 hF
theorem fr_X12_relieves_B89 {N : Nat}  {nx29 : (Int × Sto) → Option (Int × Sto)} {nx89 : (Int × Int) → Option (Int × Sto)} {v1 : Int} {v2 : Int} {v3 : Int} {v4 : Int} {v5 : Int} {σ : Sto} {res : Int × Sto} (hnx29 : ∀ q, nx29 q = some res → Fr (Wr_X12_relieves) q.2 res.2) (hnx89 : ∀ q, nx89 q = some res → Fr (Wr_X12_relieves) σ res.2) (hF : F_X12_relieves_B89 N nx29 nx89 v1 v2 v3 v4 v5 σ = some res) : Fr (Wr_X12_relieves) σ res.2 := by
  unfold F_X12_relieves_B89 at hF
  obtain ⟨b15, hF⟩ := inb_some hF
  by_cases c16 : (σ.1 109 v2) ≤ v5
  · have hF := (if_pos c16).symm.trans hF
    exact fr_X12_relieves_J192 hnx29 hF
  · have hF := (if_neg c16).symm.trans hF
    obtain ⟨b18, hF⟩ := inb_some hF
    obtain ⟨b19, hF⟩ := inb_some hF
    obtain ⟨q20, eq20, hF⟩ := bind_some' hF
    by_cases c21 : 0 ≤ q20
    · have hF := (if_pos c21).symm.trans hF
      obtain ⟨b22, hF⟩ := inb_some hF
      exact fr_X12_relieves_J168 hnx29 hnx89 hF
    · have hF := (if_neg c21).symm.trans hF
      obtain ⟨b23, hF⟩ := inb_some hF
      exact fr_X12_relieves_J168 hnx29 hnx89 hF
theorem fr_X12_relieves_J84 {N : Nat}  {nx29 : (Int × Sto) → Option (Int × Sto)} {v1 : Int} {v2 : Int} {v3 : Int} {t0 : Int} {σ : Sto} {res : Int × Sto} (hnx29 : ∀ q, nx29 q = some res → Fr (Wr_X12_relieves) q.2 res.2) (hF : F_X12_relieves_J84 N nx29 v1 v2 v3 t0 σ = some res) : Fr (Wr_X12_relieves) σ res.2 := by
  unfold F_X12_relieves_J84 at hF
  exact (loopK_ind (res := res) (P := fun (q : Int × Int) => Fr (Wr_X12_relieves) σ res.2) (fun nx q hn hF => fr_X12_relieves_B89 hnx29 hn hF) N (t0, 1) hF)
theorem fr_X12_relieves_B29 {N : Nat}  {nx29 : (Int × Sto) → Option (Int × Sto)} {v1 : Int} {σ : Sto} {res : Int × Sto} (hnx29 : ∀ q, nx29 q = some res → Fr (Wr_X12_relieves) q.2 res.2) (hF : F_X12_relieves_B29 N nx29 v1 σ = some res) : Fr (Wr_X12_relieves) σ res.2 := by
  unfold F_X12_relieves_B29 at hF
  obtain ⟨q1, eq1, hF⟩ := bind_some' hF
  obtain ⟨q2, eq2, hF⟩ := bind_some' hF
  by_cases c3 : 0 ≤ q2
  · have hF := (if_pos c3).symm.trans hF
    obtain ⟨b24, hF⟩ := inb_some hF
    obtain ⟨b25, hF⟩ := inb_some hF
    obtain ⟨b26, hF⟩ := inb_some hF
    by_cases c27 : (q1.1 105 q2) ≤ (q1.1 105 (q1.1 110 (jm 12 q2)))
    · have hF := (if_pos c27).symm.trans hF
      exact Fr_tr (Fr_tr Fr.rf (Fr_mono (fr_X12_laysRoutes (res := q1) eq1) (fun a j h => by have h : Wr_X12_laysRoutes a j := h; unfold Wr_X12_laysRoutes at h; unfold Wr_X12_relieves; (exact (Or.inr (by omega)))))) (fr_X12_relieves_J84 hnx29 hF)
    · have hF := (if_neg c27).symm.trans hF
      exact Fr_tr (Fr_tr Fr.rf (Fr_mono (fr_X12_laysRoutes (res := q1) eq1) (fun a j h => by have h : Wr_X12_laysRoutes a j := h; unfold Wr_X12_laysRoutes at h; unfold Wr_X12_relieves; (exact (Or.inr (by omega)))))) (fr_X12_relieves_J84 hnx29 hF)
  · have hF := (if_neg c3).symm.trans hF
    obtain rfl := Option.some.inj hF
    exact (Fr_tr Fr.rf (Fr_mono (fr_X12_laysRoutes (res := q1) eq1) (fun a j h => by have h : Wr_X12_laysRoutes a j := h; unfold Wr_X12_laysRoutes at h; unfold Wr_X12_relieves; (exact (Or.inr (by omega))))))
theorem fr_X12_relieves_J22 {N : Nat}    {σ : Sto} {res : Int × Sto} (hF : F_X12_relieves_J22 N   σ = some res) : Fr (Wr_X12_relieves) σ res.2 := by
  unfold F_X12_relieves_J22 at hF
  exact Fr_tr (Fr_up Fr.rf (show Wr_X12_relieves _ _ from (Or.inl (by omega)))) (loopK_ind (res := res) (P := fun (q : Int × Sto) => Fr (Wr_X12_relieves) q.2 res.2) (fun nx q hn hF => fr_X12_relieves_B29 hn hF) N (0, (upI σ 94 37 0)) hF)
theorem fr_X12_relieves_B2 {N : Nat}  {nx2 : (Int × Sto) → Option (Int × Sto)} {v1 : Int} {σ : Sto} {res : Int × Sto} (hnx2 : ∀ q, nx2 q = some res → Fr (Wr_X12_relieves) q.2 res.2) (hF : F_X12_relieves_B2 N nx2 v1 σ = some res) : Fr (Wr_X12_relieves) σ res.2 := by
  unfold F_X12_relieves_B2 at hF
  by_cases c28 : 144 ≤ v1
  · have hF := (if_pos c28).symm.trans hF
    exact fr_X12_relieves_J22  hF
  · have hF := (if_neg c28).symm.trans hF
    obtain ⟨b29, hF⟩ := inb_some hF
    exact Fr_tr (Fr_up Fr.rf (show Wr_X12_relieves _ _ from (Or.inr (by omega)))) (hnx2 ((ja v1 1), (upI σ 107 v1 0)) hF)
theorem fr_X12_relieves {N : Nat}  {σ : Sto} {res : Int × Sto} (hF : F_X12_relieves N  σ = some res) : Fr (Wr_X12_relieves) σ res.2 := by
  unfold F_X12_relieves at hF
  exact (loopK_ind (res := res) (P := fun (q : Int × Sto) => Fr (Wr_X12_relieves) q.2 res.2) (fun nx q hn hF => fr_X12_relieves_B2 hn hF) N (0, σ) hF)
def Wr_X12_solves (a : Nat) (j : Int) : Prop := (a = 94 ∧ j = 30) ∨ (a = 94 ∧ j = 37) ∨ ((102 ≤ a ∧ a ≤ 110))
theorem fr_X12_solves {N : Nat}  {σ : Sto} {res : Int × Sto} (hF : F_X12_solves N  σ = some res) : Fr (Wr_X12_solves) σ res.2 := by
  unfold F_X12_solves at hF
  obtain ⟨b1, hF⟩ := inb_some hF
  obtain ⟨q2, eq2, hF⟩ := bind_some' hF
  obtain ⟨q3, eq3, hF⟩ := bind_some' hF
  obtain rfl := Option.some.inj hF
  exact (Fr_tr (Fr_tr Fr.rf (Fr_mono (fr_X12_laysAll (res := q2) eq2) (fun a j h => by
      unfold Wr_X12_laysAll at h
      unfold Wr_X12_solves
      rcases h with h | h
      · exact (Or.inl (by omega))
      · exact (Or.inr (Or.inr (by omega)))))) (Fr_mono (fr_X12_relieves (res := q3) eq3) (fun a j h => by
      unfold Wr_X12_relieves at h
      unfold Wr_X12_solves
      rcases h with h | h
      · exact (Or.inr (Or.inl (by omega)))
      · exact (Or.inr (Or.inr (by omega))))))
def Wr_X12_claims (a : Nat) (j : Int) : Prop := (a = 101)
theorem fr_X12_claims {N : Nat} {v1 : Int} {v2 : Int} {v3 : Int} {σ : Sto} {res : Sto} (hF : F_X12_claims N v1 v2 v3 σ = some res) : Fr (Wr_X12_claims) σ res := by
  unfold F_X12_claims at hF
  obtain ⟨q1, eq1, hF⟩ := bind_some' hF
  obtain ⟨q2, eq2, hF⟩ := bind_some' hF
  obtain ⟨q3, eq3, hF⟩ := bind_some' hF
  obtain ⟨q4, eq4, hF⟩ := bind_some' hF
  obtain ⟨q5, eq5, hF⟩ := bind_some' hF
  obtain ⟨q6, eq6, hF⟩ := bind_some' hF
  obtain rfl := Option.some.inj hF
  exact (Fr_tr (Fr_tr (Fr_tr (Fr_tr Fr.rf (Fr_mono (fr_X12_lay (res := q2) eq2) (fun a j h => by have h : Wr_X12_lay a j := h; unfold Wr_X12_lay at h; unfold Wr_X12_claims; (exact (by omega))))) (Fr_mono (fr_X12_lay (res := q3) eq3) (fun a j h => by have h : Wr_X12_lay a j := h; unfold Wr_X12_lay at h; unfold Wr_X12_claims; (exact (by omega))))) (Fr_mono (fr_X12_lay (res := q4) eq4) (fun a j h => by have h : Wr_X12_lay a j := h; unfold Wr_X12_lay at h; unfold Wr_X12_claims; (exact (by omega))))) (Fr_mono (fr_X12_lay (res := q6) eq6) (fun a j h => by have h : Wr_X12_lay a j := h; unfold Wr_X12_lay at h; unfold Wr_X12_claims; (exact (by omega)))))
def Wr_X12_claim (a : Nat) (j : Int) : Prop := (a = 94 ∧ j = 2) ∨ (a = 94 ∧ j = 25) ∨ (a = 94 ∧ j = 30) ∨ ((101 ≤ a ∧ a ≤ 104))
theorem fr_X12_claim {N : Nat} {v1 : Int} {v2 : Int} {v3 : Int} {σ : Sto} {res : Int × Sto} (hF : F_X12_claim N v1 v2 v3 σ = some res) : Fr (Wr_X12_claim) σ res.2 := by
  unfold F_X12_claim at hF
  obtain ⟨q1, eq1, hF⟩ := bind_some' hF
  by_cases c2 : q1 = 0
  · have hF := (if_pos c2).symm.trans hF
    obtain rfl := Option.some.inj hF
    exact (Fr_up Fr.rf (show Wr_X12_claim _ _ from (Or.inl (by omega))))
  · have hF := (if_neg c2).symm.trans hF
    obtain ⟨q3, eq3, hF⟩ := bind_some' hF
    by_cases c4 : q3 = 0
    · have hF := (if_pos c4).symm.trans hF
      obtain rfl := Option.some.inj hF
      exact (Fr_up Fr.rf (show Wr_X12_claim _ _ from (Or.inl (by omega))))
    · have hF := (if_neg c4).symm.trans hF
      obtain ⟨q5, eq5, hF⟩ := bind_some' hF
      by_cases c6 : q5 = 30
      · have hF := (if_pos c6).symm.trans hF
        obtain rfl := Option.some.inj hF
        exact (Fr_up Fr.rf (show Wr_X12_claim _ _ from (Or.inl (by omega))))
      · have hF := (if_neg c6).symm.trans hF
        obtain ⟨b7, hF⟩ := inb_some hF
        obtain ⟨q8, eq8, hF⟩ := bind_some' hF
        obtain ⟨q9, eq9, hF⟩ := bind_some' hF
        by_cases c10 : q9 = 0
        · have hF := (if_pos c10).symm.trans hF
          obtain rfl := Option.some.inj hF
          exact (Fr_tr (Fr_up Fr.rf (show Wr_X12_claim _ _ from (Or.inl (by omega)))) (Fr_mono (fr_X12_laysStretches (res := q8) eq8) (fun a j h => by
      unfold Wr_X12_laysStretches at h
      unfold Wr_X12_claim
      rcases h with h | h
      · exact (Or.inr (Or.inr (Or.inl (by omega))))
      · exact (Or.inr (Or.inr (Or.inr (by omega)))))))
        · have hF := (if_neg c10).symm.trans hF
          obtain ⟨q11, eq11, hF⟩ := bind_some' hF
          obtain ⟨q12, eq12, hF⟩ := bind_some' hF
          obtain ⟨q13, eq13, hF⟩ := bind_some' hF
          obtain rfl := Option.some.inj hF
          exact (Fr_tr (Fr_tr (Fr_tr (Fr_up Fr.rf (show Wr_X12_claim _ _ from (Or.inl (by omega)))) (Fr_mono (fr_X12_laysStretches (res := q8) eq8) (fun a j h => by
      unfold Wr_X12_laysStretches at h
      unfold Wr_X12_claim
      rcases h with h | h
      · exact (Or.inr (Or.inr (Or.inl (by omega))))
      · exact (Or.inr (Or.inr (Or.inr (by omega))))))) (Fr_mono (fr_X12_canUndo (res := q11) eq11) (fun a j h => by
      unfold Wr_X12_canUndo at h
      unfold Wr_X12_claim
      rcases h with h | h
      · exact (Or.inr (Or.inl (by omega)))
      · exact (Or.inr (Or.inr (Or.inr (by omega))))))) (Fr_mono (fr_X12_claims (res := q12) eq12) (fun a j h => by have h : Wr_X12_claims a j := h; unfold Wr_X12_claims at h; unfold Wr_X12_claim; (exact (Or.inr (Or.inr (Or.inr (by omega))))))))
def Wr_X12_withdraw (a : Nat) (j : Int) : Prop := (a = 94 ∧ j = 2) ∨ (a = 94 ∧ j = 25) ∨ (a = 101)
theorem fr_X12_withdraw_B49 {N : Nat}  {nx49 : (Int × Sto) → Option (Int × Sto)} {v2 : Int} {v3 : Int} {σ : Sto} {res : Int × Sto} (hnx49 : ∀ q, nx49 q = some res → Fr (Wr_X12_withdraw) q.2 res.2) (hF : F_X12_withdraw_B49 N nx49 v2 v3 σ = some res) : Fr (Wr_X12_withdraw) σ res.2 := by
  unfold F_X12_withdraw_B49 at hF
  obtain ⟨q7, eq7, hF⟩ := bind_some' hF
  by_cases c8 : (ja 1 (jm 3 q7)) ≤ v3
  · have hF := (if_pos c8).symm.trans hF
    obtain rfl := Option.some.inj hF
    exact Fr.rf
  · have hF := (if_neg c8).symm.trans hF
    obtain ⟨q9, eq9, hF⟩ := bind_some' hF
    obtain ⟨q10, eq10, hF⟩ := bind_some' hF
    exact Fr_tr (Fr_tr Fr.rf (Fr_mono (fr_X12_lay (res := q10) eq10) (fun a j h => by have h : Wr_X12_lay a j := h; unfold Wr_X12_lay at h; unfold Wr_X12_withdraw; (exact (Or.inr (Or.inr (by omega))))))) (hnx49 ((ja v3 1), q10) hF)
theorem fr_X12_withdraw {N : Nat} {v1 : Int} {σ : Sto} {res : Int × Sto} (hF : F_X12_withdraw N v1 σ = some res) : Fr (Wr_X12_withdraw) σ res.2 := by
  unfold F_X12_withdraw at hF
  obtain ⟨q1, eq1, hF⟩ := bind_some' hF
  by_cases c2 : q1 = 0
  · have hF := (if_pos c2).symm.trans hF
    obtain rfl := Option.some.inj hF
    exact (Fr_up Fr.rf (show Wr_X12_withdraw _ _ from (Or.inl (by omega))))
  · have hF := (if_neg c2).symm.trans hF
    obtain ⟨q3, eq3, hF⟩ := bind_some' hF
    obtain ⟨q4, eq4, hF⟩ := bind_some' hF
    obtain ⟨q5, eq5, hF⟩ := bind_some' hF
    obtain ⟨q6, eq6, hF⟩ := bind_some' hF
    exact Fr_tr (Fr_tr (Fr_tr (Fr_up Fr.rf (show Wr_X12_withdraw _ _ from (Or.inl (by omega)))) (Fr_mono (fr_X12_canUndo (res := q3) eq3) (fun a j h => by
      unfold Wr_X12_canUndo at h
      unfold Wr_X12_withdraw
      rcases h with h | h
      · exact (Or.inr (Or.inl (by omega)))
      · exact (Or.inr (Or.inr (by omega)))))) (Fr_mono (fr_X12_lay (res := q6) eq6) (fun a j h => by have h : Wr_X12_lay a j := h; unfold Wr_X12_lay at h; unfold Wr_X12_withdraw; (exact (Or.inr (Or.inr (by omega))))))) (loopK_ind (res := res) (P := fun (q : Int × Sto) => Fr (Wr_X12_withdraw) q.2 res.2) (fun nx q hn hF => fr_X12_withdraw_B49 hn hF) N ((ja 1 (jm 3 v1)), q6) hF)
def Wr_X12_claimed (a : Nat) (j : Int) : Prop := (a = 94 ∧ j = 2)
theorem fr_X12_claimed {N : Nat} {v1 : Int} {v2 : Int} {σ : Sto} {res : Int × Sto} (hF : F_X12_claimed N v1 v2 σ = some res) : Fr (Wr_X12_claimed) σ res.2 := by
  unfold F_X12_claimed at hF
  obtain ⟨q1, eq1, hF⟩ := bind_some' hF
  by_cases c2 : q1 = 0
  · have hF := (if_pos c2).symm.trans hF
    obtain rfl := Option.some.inj hF
    exact (Fr_up Fr.rf (show Wr_X12_claimed _ _ from (by unfold Wr_X12_claimed; omega)))
  · have hF := (if_neg c2).symm.trans hF
    obtain ⟨q3, eq3, hF⟩ := bind_some' hF
    by_cases c4 : q3 = 0
    · have hF := (if_pos c4).symm.trans hF
      obtain rfl := Option.some.inj hF
      exact (Fr_up Fr.rf (show Wr_X12_claimed _ _ from (by unfold Wr_X12_claimed; omega)))
    · have hF := (if_neg c4).symm.trans hF
      by_cases c5 : 3 ≤ v2
      · have hF := (if_pos c5).symm.trans hF
        obtain ⟨q6, eq6, hF⟩ := bind_some' hF
        obtain ⟨q7, eq7, hF⟩ := bind_some' hF
        obtain ⟨q8, eq8, hF⟩ := bind_some' hF
        obtain ⟨q9, eq9, hF⟩ := bind_some' hF
        obtain rfl := Option.some.inj hF
        exact (Fr_up Fr.rf (show Wr_X12_claimed _ _ from (by unfold Wr_X12_claimed; omega)))
      · have hF := (if_neg c5).symm.trans hF
        obtain ⟨q10, eq10, hF⟩ := bind_some' hF
        obtain rfl := Option.some.inj hF
        exact (Fr_up Fr.rf (show Wr_X12_claimed _ _ from (by unfold Wr_X12_claimed; omega)))
def Wr_X12_claimAll (a : Nat) (j : Int) : Prop := (a = 94 ∧ j = 2) ∨ (a = 94 ∧ j = 25) ∨ (a = 94 ∧ j = 30) ∨ (a = 94 ∧ j = 37) ∨ ((101 ≤ a ∧ a ≤ 110))
theorem fr_X12_claimAll_J72 {N : Nat}  {nx14 : (Int × Int × Sto) → Option (Int × Sto)} {v1 : Int} {v2 : Int} {σ : Sto} {res : Int × Sto} (hnx14 : ∀ q, nx14 q = some res → Fr (Wr_X12_claimAll) q.2.2 res.2) (hF : F_X12_claimAll_J72 N nx14 v1 v2 σ = some res) : Fr (Wr_X12_claimAll) σ res.2 := by
  unfold F_X12_claimAll_J72 at hF
  exact Fr_tr Fr.rf (hnx14 (v1, (ja v2 1), σ) hF)
theorem fr_X12_claimAll_J51 {N : Nat}  {nx14 : (Int × Int × Sto) → Option (Int × Sto)} {v1 : Int} {v2 : Int} {σ : Sto} {res : Int × Sto} (hnx14 : ∀ q, nx14 q = some res → Fr (Wr_X12_claimAll) q.2.2 res.2) (hF : F_X12_claimAll_J51 N nx14 v1 v2 σ = some res) : Fr (Wr_X12_claimAll) σ res.2 := by
  unfold F_X12_claimAll_J51 at hF
  obtain ⟨b7, hF⟩ := inb_some hF
  obtain ⟨q8, eq8, hF⟩ := bind_some' hF
  exact Fr_tr (Fr_tr Fr.rf (Fr_mono (fr_X12_claims (res := q8) eq8) (fun a j h => by have h : Wr_X12_claims a j := h; unfold Wr_X12_claims at h; unfold Wr_X12_claimAll; (exact (Or.inr (Or.inr (Or.inr (Or.inr (by omega))))))))) (fr_X12_claimAll_J72 hnx14 hF)
theorem fr_X12_claimAll_B14 {N : Nat}  {nx14 : (Int × Int × Sto) → Option (Int × Sto)} {v1 : Int} {v2 : Int} {σ : Sto} {res : Int × Sto} (hnx14 : ∀ q, nx14 q = some res → Fr (Wr_X12_claimAll) q.2.2 res.2) (hF : F_X12_claimAll_B14 N nx14 v1 v2 σ = some res) : Fr (Wr_X12_claimAll) σ res.2 := by
  unfold F_X12_claimAll_B14 at hF
  by_cases c2 : 144 ≤ v2
  · have hF := (if_pos c2).symm.trans hF
    obtain rfl := Option.some.inj hF
    exact Fr.rf
  · have hF := (if_neg c2).symm.trans hF
    obtain ⟨q3, eq3, hF⟩ := bind_some' hF
    by_cases c4 : 30 ≤ q3
    · have hF := (if_pos c4).symm.trans hF
      obtain rfl := Option.some.inj hF
      exact Fr.rf
    · have hF := (if_neg c4).symm.trans hF
      obtain ⟨b5, hF⟩ := inb_some hF
      by_cases c6 : (σ.1 107 v2) = 0
      · have hF := (if_pos c6).symm.trans hF
        exact fr_X12_claimAll_J72 hnx14 hF
      · have hF := (if_neg c6).symm.trans hF
        by_cases c9 : v1 = 0
        · have hF := (if_pos c9).symm.trans hF
          obtain ⟨q10, eq10, hF⟩ := bind_some' hF
          exact Fr_tr (Fr_tr Fr.rf (Fr_mono (fr_X12_canUndo (res := q10) eq10) (fun a j h => by
      unfold Wr_X12_canUndo at h
      unfold Wr_X12_claimAll
      rcases h with h | h
      · exact (Or.inr (Or.inl (by omega)))
      · exact (Or.inr (Or.inr (Or.inr (Or.inr (by omega)))))))) (fr_X12_claimAll_J51 hnx14 hF)
        · have hF := (if_neg c9).symm.trans hF
          exact fr_X12_claimAll_J51 hnx14 hF
theorem fr_X12_claimAll {N : Nat}  {σ : Sto} {res : Int × Sto} (hF : F_X12_claimAll N  σ = some res) : Fr (Wr_X12_claimAll) σ res.2 := by
  unfold F_X12_claimAll at hF
  obtain ⟨q1, eq1, hF⟩ := bind_some' hF
  exact Fr_tr (Fr_tr (Fr_up Fr.rf (show Wr_X12_claimAll _ _ from (Or.inl (by omega)))) (Fr_mono (fr_X12_solves (res := q1) eq1) (fun a j h => by
      unfold Wr_X12_solves at h
      unfold Wr_X12_claimAll
      rcases h with h | h | h
      · exact (Or.inr (Or.inr (Or.inl (by omega))))
      · exact (Or.inr (Or.inr (Or.inr (Or.inl (by omega)))))
      · exact (Or.inr (Or.inr (Or.inr (Or.inr (by omega)))))))) (loopK_ind (res := res) (P := fun (q : Int × Int × Sto) => Fr (Wr_X12_claimAll) q.2.2 res.2) (fun nx q hn hF => fr_X12_claimAll_B14 hn hF) N (0, 0, q1.2) hF)
def Wr_X12_result_ (a : Nat) (j : Int) : Prop := (a = 94 ∧ j = 2) ∨ (a = 94 ∧ j = 25) ∨ (a = 101)
theorem fr_X12_result_ {N : Nat} {v1 : Int} {v2 : Int} {σ : Sto} {res : Int × Sto} (hF : F_X12_result_ N v1 v2 σ = some res) : Fr (Wr_X12_result_) σ res.2 := by
  unfold F_X12_result_ at hF
  obtain ⟨q1, eq1, hF⟩ := bind_some' hF
  by_cases c2 : q1 = 0
  · have hF := (if_pos c2).symm.trans hF
    obtain rfl := Option.some.inj hF
    exact (Fr_up Fr.rf (show Wr_X12_result_ _ _ from (Or.inl (by omega))))
  · have hF := (if_neg c2).symm.trans hF
    obtain ⟨q3, eq3, hF⟩ := bind_some' hF
    by_cases c4 : q3 = 0
    · have hF := (if_pos c4).symm.trans hF
      obtain rfl := Option.some.inj hF
      exact (Fr_up Fr.rf (show Wr_X12_result_ _ _ from (Or.inl (by omega))))
    · have hF := (if_neg c4).symm.trans hF
      obtain ⟨q5, eq5, hF⟩ := bind_some' hF
      by_cases c6 : q5 ≤ 0
      · have hF := (if_pos c6).symm.trans hF
        obtain ⟨q7, eq7, hF⟩ := bind_some' hF
        obtain ⟨q8, eq8, hF⟩ := bind_some' hF
        obtain rfl := Option.some.inj hF
        exact (Fr_tr (Fr_tr (Fr_up Fr.rf (show Wr_X12_result_ _ _ from (Or.inl (by omega)))) (Fr_mono (fr_X12_canUndo (res := q7) eq7) (fun a j h => by
      unfold Wr_X12_canUndo at h
      unfold Wr_X12_result_
      rcases h with h | h
      · exact (Or.inr (Or.inl (by omega)))
      · exact (Or.inr (Or.inr (by omega)))))) (Fr_mono (fr_X12_lay (res := q8) eq8) (fun a j h => by have h : Wr_X12_lay a j := h; unfold Wr_X12_lay at h; unfold Wr_X12_result_; (exact (Or.inr (Or.inr (by omega)))))))
      · have hF := (if_neg c6).symm.trans hF
        obtain rfl := Option.some.inj hF
        exact (Fr_up Fr.rf (show Wr_X12_result_ _ _ from (Or.inl (by omega))))
def Wr_X12_owned (a : Nat) (j : Int) : Prop := (a = 101)
theorem fr_X12_owned {N : Nat} {v1 : Int} {v2 : Int} {v3 : Int} {v4 : Int} {σ : Sto} {res : Sto} (hF : F_X12_owned N v1 v2 v3 v4 σ = some res) : Fr (Wr_X12_owned) σ res := by
  unfold F_X12_owned at hF
  obtain ⟨q1, eq1, hF⟩ := bind_some' hF
  obtain ⟨q2, eq2, hF⟩ := bind_some' hF
  obtain ⟨q3, eq3, hF⟩ := bind_some' hF
  obtain ⟨q4, eq4, hF⟩ := bind_some' hF
  obtain ⟨q5, eq5, hF⟩ := bind_some' hF
  obtain ⟨q6, eq6, hF⟩ := bind_some' hF
  obtain ⟨q7, eq7, hF⟩ := bind_some' hF
  obtain rfl := Option.some.inj hF
  exact (Fr_tr (Fr_tr (Fr_tr (Fr_tr (Fr_tr Fr.rf (Fr_mono (fr_X12_lay (res := q2) eq2) (fun a j h => by have h : Wr_X12_lay a j := h; unfold Wr_X12_lay at h; unfold Wr_X12_owned; (exact (by omega))))) (Fr_mono (fr_X12_lay (res := q3) eq3) (fun a j h => by have h : Wr_X12_lay a j := h; unfold Wr_X12_lay at h; unfold Wr_X12_owned; (exact (by omega))))) (Fr_mono (fr_X12_lay (res := q4) eq4) (fun a j h => by have h : Wr_X12_lay a j := h; unfold Wr_X12_lay at h; unfold Wr_X12_owned; (exact (by omega))))) (Fr_mono (fr_X12_lay (res := q5) eq5) (fun a j h => by have h : Wr_X12_lay a j := h; unfold Wr_X12_lay at h; unfold Wr_X12_owned; (exact (by omega))))) (Fr_mono (fr_X12_lay (res := q7) eq7) (fun a j h => by have h : Wr_X12_lay a j := h; unfold Wr_X12_lay at h; unfold Wr_X12_owned; (exact (by omega)))))
def Wr_X12_own (a : Nat) (j : Int) : Prop := (a = 94 ∧ j = 2) ∨ (a = 94 ∧ j = 24) ∨ (a = 94 ∧ j = 25) ∨ (a = 94 ∧ j = 30) ∨ ((101 ≤ a ∧ a ≤ 104))
theorem fr_X12_own_J169 {N : Nat}   {v1 : Int} {v2 : Int} {v3 : Int} {v4 : Int} {v5 : Int} {σ : Sto} {res : Int × Sto} (hF : F_X12_own_J169 N  v1 v2 v3 v4 v5 σ = some res) : Fr (Wr_X12_own) σ res.2 := by
  unfold F_X12_own_J169 at hF
  by_cases c16 : v5 = 0
  · have hF := (if_pos c16).symm.trans hF
    obtain rfl := Option.some.inj hF
    exact (Fr_up Fr.rf (show Wr_X12_own _ _ from (Or.inr (Or.inl (by omega)))))
  · have hF := (if_neg c16).symm.trans hF
    obtain ⟨q17, eq17, hF⟩ := bind_some' hF
    obtain ⟨q18, eq18, hF⟩ := bind_some' hF
    obtain ⟨q19, eq19, hF⟩ := bind_some' hF
    obtain rfl := Option.some.inj hF
    exact (Fr_tr (Fr_tr (Fr_up Fr.rf (show Wr_X12_own _ _ from (Or.inr (Or.inl (by omega))))) (Fr_mono (fr_X12_canUndo (res := q17) eq17) (fun a j h => by
      unfold Wr_X12_canUndo at h
      unfold Wr_X12_own
      rcases h with h | h
      · exact (Or.inr (Or.inr (Or.inl (by omega))))
      · exact (Or.inr (Or.inr (Or.inr (Or.inr (by omega)))))))) (Fr_mono (fr_X12_owned (res := q18) eq18) (fun a j h => by have h : Wr_X12_owned a j := h; unfold Wr_X12_owned at h; unfold Wr_X12_own; (exact (Or.inr (Or.inr (Or.inr (Or.inr (by omega)))))))))
theorem fr_X12_own_J161 {N : Nat}  {nx96 : (Int × Int) → Option (Int × Sto)} {v1 : Int} {v2 : Int} {v3 : Int} {v4 : Int} {v6 : Int} {t0 : Int} {σ : Sto} {res : Int × Sto} (hnx96 : ∀ q, nx96 q = some res → Fr (Wr_X12_own) σ res.2) (hF : F_X12_own_J161 N nx96 v1 v2 v3 v4 v6 t0 σ = some res) : Fr (Wr_X12_own) σ res.2 := by
  unfold F_X12_own_J161 at hF
  exact hnx96 _ hF
theorem fr_X12_own_J160 {N : Nat}  {nx96 : (Int × Int) → Option (Int × Sto)} {v1 : Int} {v2 : Int} {v3 : Int} {v4 : Int} {v6 : Int} {σ : Sto} {res : Int × Sto} (hnx96 : ∀ q, nx96 q = some res → Fr (Wr_X12_own) σ res.2) (hF : F_X12_own_J160 N nx96 v1 v2 v3 v4 v6 σ = some res) : Fr (Wr_X12_own) σ res.2 := by
  unfold F_X12_own_J160 at hF
  exact fr_X12_own_J161 hnx96 hF
theorem fr_X12_own_B96 {N : Nat}  {nx96 : (Int × Int) → Option (Int × Sto)} {v1 : Int} {v2 : Int} {v3 : Int} {v4 : Int} {v5 : Int} {v6 : Int} {σ : Sto} {res : Int × Sto} (hnx96 : ∀ q, nx96 q = some res → Fr (Wr_X12_own) σ res.2) (hF : F_X12_own_B96 N nx96 v1 v2 v3 v4 v5 v6 σ = some res) : Fr (Wr_X12_own) σ res.2 := by
  unfold F_X12_own_B96 at hF
  obtain ⟨q20, eq20, hF⟩ := bind_some' hF
  by_cases c21 : q20 ≤ v6
  · have hF := (if_pos c21).symm.trans hF
    exact fr_X12_own_J169  hF
  · have hF := (if_neg c21).symm.trans hF
    obtain ⟨q22, eq22, hF⟩ := bind_some' hF
    obtain ⟨q23, eq23, hF⟩ := bind_some' hF
    by_cases c24 : v5 = 0
    · have hF := (if_pos c24).symm.trans hF
      exact fr_X12_own_J160 hnx96 hF
    · have hF := (if_neg c24).symm.trans hF
      obtain ⟨q25, eq25, hF⟩ := bind_some' hF
      obtain ⟨q26, eq26, hF⟩ := bind_some' hF
      by_cases c27 : q26 < q25
      · have hF := (if_pos c27).symm.trans hF
        exact fr_X12_own_J160 hnx96 hF
      · have hF := (if_neg c27).symm.trans hF
        exact fr_X12_own_J161 hnx96 hF
theorem fr_X12_own {N : Nat} {v1 : Int} {v2 : Int} {v3 : Int} {v4 : Int} {σ : Sto} {res : Int × Sto} (hF : F_X12_own N v1 v2 v3 v4 σ = some res) : Fr (Wr_X12_own) σ res.2 := by
  unfold F_X12_own at hF
  obtain ⟨q1, eq1, hF⟩ := bind_some' hF
  by_cases c2 : q1 = 0
  · have hF := (if_pos c2).symm.trans hF
    obtain rfl := Option.some.inj hF
    exact (Fr_up Fr.rf (show Wr_X12_own _ _ from (Or.inl (by omega))))
  · have hF := (if_neg c2).symm.trans hF
    obtain ⟨q3, eq3, hF⟩ := bind_some' hF
    by_cases c4 : q3 = 0
    · have hF := (if_pos c4).symm.trans hF
      obtain rfl := Option.some.inj hF
      exact (Fr_up Fr.rf (show Wr_X12_own _ _ from (Or.inl (by omega))))
    · have hF := (if_neg c4).symm.trans hF
      by_cases c5 : v2 ≤ v1
      · have hF := (if_pos c5).symm.trans hF
        obtain rfl := Option.some.inj hF
        exact (Fr_up Fr.rf (show Wr_X12_own _ _ from (Or.inl (by omega))))
      · have hF := (if_neg c5).symm.trans hF
        obtain ⟨q6, eq6, hF⟩ := bind_some' hF
        by_cases c7 : q6 = 0
        · have hF := (if_pos c7).symm.trans hF
          obtain rfl := Option.some.inj hF
          exact (Fr_up Fr.rf (show Wr_X12_own _ _ from (Or.inl (by omega))))
        · have hF := (if_neg c7).symm.trans hF
          obtain ⟨q8, eq8, hF⟩ := bind_some' hF
          by_cases c9 : q8 = 0
          · have hF := (if_pos c9).symm.trans hF
            obtain rfl := Option.some.inj hF
            exact (Fr_up Fr.rf (show Wr_X12_own _ _ from (Or.inl (by omega))))
          · have hF := (if_neg c9).symm.trans hF
            obtain ⟨q10, eq10, hF⟩ := bind_some' hF
            by_cases c11 : q10 = 24
            · have hF := (if_pos c11).symm.trans hF
              obtain rfl := Option.some.inj hF
              exact (Fr_up Fr.rf (show Wr_X12_own _ _ from (Or.inl (by omega))))
            · have hF := (if_neg c11).symm.trans hF
              obtain ⟨q12, eq12, hF⟩ := bind_some' hF
              obtain ⟨q13, eq13, hF⟩ := bind_some' hF
              obtain ⟨b14, hF⟩ := inb_some hF
              obtain ⟨q15, eq15, hF⟩ := bind_some' hF
              exact Fr_tr (Fr_tr (Fr_tr (Fr_up (Fr_tr (Fr_up Fr.rf (show Wr_X12_own _ _ from (Or.inl (by omega)))) (Fr_mono (fr_X12_copyBank (res := q12) eq12) (fun a j h => by have h : Wr_X12_copyBank a j := h; unfold Wr_X12_copyBank at h; unfold Wr_X12_own; (exact (Or.inr (Or.inr (Or.inr (Or.inr (by omega))))))))) (show Wr_X12_own _ _ from (Or.inr (Or.inl (by omega))))) (Fr_mono (fr_X12_owned (res := q13) eq13) (fun a j h => by have h : Wr_X12_owned a j := h; unfold Wr_X12_owned at h; unfold Wr_X12_own; (exact (Or.inr (Or.inr (Or.inr (Or.inr (by omega))))))))) (Fr_mono (fr_X12_laysStretches (res := q15) eq15) (fun a j h => by
      unfold Wr_X12_laysStretches at h
      unfold Wr_X12_own
      rcases h with h | h
      · exact (Or.inr (Or.inr (Or.inr (Or.inl (by omega)))))
      · exact (Or.inr (Or.inr (Or.inr (Or.inr (by omega)))))))) (loopK_ind (res := res) (P := fun (q : Int × Int) => Fr (Wr_X12_own) q15 res.2) (fun nx q hn hF => fr_X12_own_B96 hn hF) N (1, 0) hF)
