def Wr_X11_text (a : Nat) (j : Int) : Prop := ((0 ≤ a ∧ a ≤ 1) ∧ j = 1) ∨ (a = 33 ∧ j = 1) ∨ (a = 1 ∧ j = 10) ∨ (a = 3 ∧ j = 10) ∨ (a = 16 ∧ j = 10) ∨ (a = 3 ∧ j = 11) ∨ (a = 16 ∧ j = 11) ∨ (a = 3 ∧ j = 12) ∨ (a = 16 ∧ j = 12) ∨ (a = 3 ∧ j = 13) ∨ (a = 16 ∧ j = 13) ∨ (a = 0 ∧ j = 16) ∨ (a = 0 ∧ j = 17) ∨ ((0 ≤ a ∧ a ≤ 1) ∧ j = 2) ∨ (a = 1 ∧ j = 3) ∨ (a = 29 ∧ j = 3) ∨ (a = 35 ∧ j = 3) ∨ (a = 1 ∧ j = 4) ∨ (a = 11 ∧ j = 4) ∨ (a = 24 ∧ j = 4) ∨ (a = 1 ∧ j = 5) ∨ (a = 1 ∧ j = 6) ∨ (a = 1 ∧ j = 7) ∨ (a = 1 ∧ j = 8) ∨ (a = 3 ∧ j = 8) ∨ (a = 16 ∧ j = 8) ∨ (a = 1 ∧ j = 9) ∨ (a = 3 ∧ j = 9) ∨ (a = 16 ∧ j = 9) ∨ ((4 ≤ a ∧ a ≤ 10)) ∨ ((12 ≤ a ∧ a ≤ 15)) ∨ ((17 ≤ a ∧ a ≤ 23)) ∨ ((25 ≤ a ∧ a ≤ 28))
theorem fr_X11_text {N : Nat} {v1 : Int} {σ : Sto} {res : Int × Sto} (hF : F_X11_text N v1 σ = some res) : Fr (Wr_X11_text) σ res.2 := by
  unfold F_X11_text at hF
  by_cases c1 : v1 < 0
  · have hF := (if_pos c1).symm.trans hF
    obtain rfl := Option.some.inj hF
    exact Fr.rf
  · have hF := (if_neg c1).symm.trans hF
    by_cases c2 : v1 ≤ (σ.1 1 1)
    · have hF := (if_pos c2).symm.trans hF
      obtain ⟨b3, eb3, kb3, hF⟩ := asB_some hF
      obtain ⟨q4, eq4, hF⟩ := bind_some' hF
      by_cases c5 : q4.1 = 0
      · have hF := (if_pos c5).symm.trans hF
        obtain rfl := Option.some.inj hF
        exact (Fr_tr Fr.rf (Fr_mono (fr_X8_read (res := q4) eq4) (fun a j h => by
      unfold Wr_X8_read at h
      unfold Wr_X11_text
      rcases h with h | h | h | h | h | h | h | h | h | h | h | h | h | h | h | h | h | h | h
      · rcases bookc kb3 with hbk | hbk <;> first | exact (Or.inr (Or.inr (Or.inr (Or.inl (by omega))))) | exact (Or.inr (Or.inr (Or.inr (Or.inr (Or.inl (by omega))))))
      · rcases bookc kb3 with hbk | hbk <;> first | exact (Or.inr (Or.inr (Or.inr (Or.inr (Or.inr (Or.inl (by omega))))))) | exact (Or.inr (Or.inr (Or.inr (Or.inr (Or.inr (Or.inr (Or.inl (by omega))))))))
      · rcases bookc kb3 with hbk | hbk <;> first | exact (Or.inr (Or.inr (Or.inr (Or.inr (Or.inr (Or.inr (Or.inr (Or.inl (by omega))))))))) | exact (Or.inr (Or.inr (Or.inr (Or.inr (Or.inr (Or.inr (Or.inr (Or.inr (Or.inl (by omega))))))))))
      · rcases bookc kb3 with hbk | hbk <;> first | exact (Or.inr (Or.inr (Or.inr (Or.inr (Or.inr (Or.inr (Or.inr (Or.inr (Or.inr (Or.inl (by omega))))))))))) | exact (Or.inr (Or.inr (Or.inr (Or.inr (Or.inr (Or.inr (Or.inr (Or.inr (Or.inr (Or.inr (Or.inl (by omega))))))))))))
      · rcases bookc kb3 with hbk | hbk <;> first | exact (Or.inr (Or.inr (Or.inr (Or.inr (Or.inr (Or.inr (Or.inr (Or.inr (Or.inr (Or.inr (Or.inr (Or.inr (Or.inr (Or.inr (Or.inr (Or.inr (Or.inr (Or.inr (Or.inl (by omega)))))))))))))))))))) | exact (Or.inr (Or.inr (Or.inr (Or.inr (Or.inr (Or.inr (Or.inr (Or.inr (Or.inr (Or.inr (Or.inr (Or.inr (Or.inr (Or.inr (Or.inr (Or.inr (Or.inr (Or.inr (Or.inr (Or.inl (by omega)))))))))))))))))))))
      · rcases bookc kb3 with hbk | hbk <;> first | exact (Or.inr (Or.inr (Or.inr (Or.inr (Or.inr (Or.inr (Or.inr (Or.inr (Or.inr (Or.inr (Or.inr (Or.inr (Or.inr (Or.inr (Or.inr (Or.inr (Or.inr (Or.inr (Or.inr (Or.inr (Or.inr (Or.inr (Or.inr (Or.inr (Or.inl (by omega)))))))))))))))))))))))))) | exact (Or.inr (Or.inr (Or.inr (Or.inr (Or.inr (Or.inr (Or.inr (Or.inr (Or.inr (Or.inr (Or.inr (Or.inr (Or.inr (Or.inr (Or.inr (Or.inr (Or.inr (Or.inr (Or.inr (Or.inr (Or.inr (Or.inr (Or.inr (Or.inr (Or.inr (Or.inl (by omega)))))))))))))))))))))))))))
      · rcases bookc kb3 with hbk | hbk <;> first | exact (Or.inr (Or.inr (Or.inr (Or.inr (Or.inr (Or.inr (Or.inr (Or.inr (Or.inr (Or.inr (Or.inr (Or.inr (Or.inr (Or.inr (Or.inr (Or.inr (Or.inr (Or.inr (Or.inr (Or.inr (Or.inr (Or.inr (Or.inr (Or.inr (Or.inr (Or.inr (Or.inr (Or.inl (by omega))))))))))))))))))))))))))))) | exact (Or.inr (Or.inr (Or.inr (Or.inr (Or.inr (Or.inr (Or.inr (Or.inr (Or.inr (Or.inr (Or.inr (Or.inr (Or.inr (Or.inr (Or.inr (Or.inr (Or.inr (Or.inr (Or.inr (Or.inr (Or.inr (Or.inr (Or.inr (Or.inr (Or.inr (Or.inr (Or.inr (Or.inr (Or.inl (by omega))))))))))))))))))))))))))))))
      · rcases bookc kb3 with hbk | hbk <;> first | exact (Or.inr (Or.inr (Or.inr (Or.inr (Or.inr (Or.inr (Or.inr (Or.inr (Or.inr (Or.inr (Or.inr (Or.inr (Or.inr (Or.inr (Or.inr (Or.inr (Or.inr (Or.inr (Or.inr (Or.inr (Or.inr (Or.inr (Or.inr (Or.inr (Or.inr (Or.inr (Or.inr (Or.inr (Or.inr (Or.inl (by omega))))))))))))))))))))))))))))))) | exact (Or.inr (Or.inr (Or.inr (Or.inr (Or.inr (Or.inr (Or.inr (Or.inr (Or.inr (Or.inr (Or.inr (Or.inr (Or.inr (Or.inr (Or.inr (Or.inr (Or.inr (Or.inr (Or.inr (Or.inr (Or.inr (Or.inr (Or.inr (Or.inr (Or.inr (Or.inr (Or.inr (Or.inr (Or.inr (Or.inr (Or.inr (Or.inl (by omega)))))))))))))))))))))))))))))))))
      · rcases bookc kb3 with hbk | hbk <;> first | exact (Or.inr (Or.inr (Or.inr (Or.inr (Or.inr (Or.inr (Or.inr (Or.inr (Or.inr (Or.inr (Or.inr (Or.inr (Or.inr (Or.inr (Or.inr (Or.inr (Or.inr (Or.inr (Or.inr (Or.inr (Or.inr (Or.inr (Or.inr (Or.inr (Or.inr (Or.inr (Or.inr (Or.inr (Or.inr (Or.inr (Or.inl (by omega)))))))))))))))))))))))))))))))) | exact (Or.inr (Or.inr (Or.inr (Or.inr (Or.inr (Or.inr (Or.inr (Or.inr (Or.inr (Or.inr (Or.inr (Or.inr (Or.inr (Or.inr (Or.inr (Or.inr (Or.inr (Or.inr (Or.inr (Or.inr (Or.inr (Or.inr (Or.inr (Or.inr (Or.inr (Or.inr (Or.inr (Or.inr (Or.inr (Or.inr (Or.inr (Or.inr (by omega)))))))))))))))))))))))))))))))))
      · exact (Or.inl (by omega))
      · exact (Or.inr (Or.inr (Or.inl (by omega))))
      · exact (Or.inr (Or.inr (Or.inr (Or.inr (Or.inr (Or.inr (Or.inr (Or.inr (Or.inr (Or.inr (Or.inr (Or.inr (Or.inr (Or.inl (by omega)))))))))))))))
      · exact (Or.inr (Or.inr (Or.inr (Or.inr (Or.inr (Or.inr (Or.inr (Or.inr (Or.inr (Or.inr (Or.inr (Or.inr (Or.inr (Or.inr (Or.inl (by omega))))))))))))))))
      · exact (Or.inr (Or.inr (Or.inr (Or.inr (Or.inr (Or.inr (Or.inr (Or.inr (Or.inr (Or.inr (Or.inr (Or.inr (Or.inr (Or.inr (Or.inr (Or.inr (Or.inr (Or.inl (by omega)))))))))))))))))))
      · exact (Or.inr (Or.inr (Or.inr (Or.inr (Or.inr (Or.inr (Or.inr (Or.inr (Or.inr (Or.inr (Or.inr (Or.inr (Or.inr (Or.inr (Or.inr (Or.inr (Or.inr (Or.inr (Or.inr (Or.inr (Or.inl (by omega))))))))))))))))))))))
      · exact (Or.inr (Or.inr (Or.inr (Or.inr (Or.inr (Or.inr (Or.inr (Or.inr (Or.inr (Or.inr (Or.inr (Or.inr (Or.inr (Or.inr (Or.inr (Or.inr (Or.inr (Or.inr (Or.inr (Or.inr (Or.inr (Or.inl (by omega)))))))))))))))))))))))
      · exact (Or.inr (Or.inr (Or.inr (Or.inr (Or.inr (Or.inr (Or.inr (Or.inr (Or.inr (Or.inr (Or.inr (Or.inr (Or.inr (Or.inr (Or.inr (Or.inr (Or.inr (Or.inr (Or.inr (Or.inr (Or.inr (Or.inr (Or.inl (by omega))))))))))))))))))))))))
      · exact (Or.inr (Or.inr (Or.inr (Or.inr (Or.inr (Or.inr (Or.inr (Or.inr (Or.inr (Or.inr (Or.inr (Or.inr (Or.inr (Or.inr (Or.inr (Or.inr (Or.inr (Or.inr (Or.inr (Or.inr (Or.inr (Or.inr (Or.inr (Or.inl (by omega)))))))))))))))))))))))))
      · exact (Or.inr (Or.inr (Or.inr (Or.inr (Or.inr (Or.inr (Or.inr (Or.inr (Or.inr (Or.inr (Or.inr (Or.inr (Or.inr (Or.inr (Or.inr (Or.inr (Or.inr (Or.inr (Or.inr (Or.inr (Or.inr (Or.inr (Or.inr (Or.inr (Or.inr (Or.inr (Or.inl (by omega)))))))))))))))))))))))))))))))
      · have hF := (if_neg c5).symm.trans hF
        obtain ⟨b6, eb6, kb6, hF⟩ := asB_some hF
        obtain ⟨b7, eb7, kb7, hF⟩ := asB_some hF
        obtain ⟨q8, eq8, hF⟩ := bind_some' hF
        obtain ⟨q9, eq9, hF⟩ := bind_some' hF
        obtain ⟨q10, eq10, hF⟩ := bind_some' hF
        obtain rfl := Option.some.inj hF
        exact (Fr_tr (Fr_up (Fr_tr (Fr_tr (Fr_up (Fr_up (Fr_tr Fr.rf (Fr_mono (fr_X8_read (res := q4) eq4) (fun a j h => by
      unfold Wr_X8_read at h
      unfold Wr_X11_text
      rcases h with h | h | h | h | h | h | h | h | h | h | h | h | h | h | h | h | h | h | h
      · rcases bookc kb3 with hbk | hbk <;> first | exact (Or.inr (Or.inr (Or.inr (Or.inl (by omega))))) | exact (Or.inr (Or.inr (Or.inr (Or.inr (Or.inl (by omega))))))
      · rcases bookc kb3 with hbk | hbk <;> first | exact (Or.inr (Or.inr (Or.inr (Or.inr (Or.inr (Or.inl (by omega))))))) | exact (Or.inr (Or.inr (Or.inr (Or.inr (Or.inr (Or.inr (Or.inl (by omega))))))))
      · rcases bookc kb3 with hbk | hbk <;> first | exact (Or.inr (Or.inr (Or.inr (Or.inr (Or.inr (Or.inr (Or.inr (Or.inl (by omega))))))))) | exact (Or.inr (Or.inr (Or.inr (Or.inr (Or.inr (Or.inr (Or.inr (Or.inr (Or.inl (by omega))))))))))
      · rcases bookc kb3 with hbk | hbk <;> first | exact (Or.inr (Or.inr (Or.inr (Or.inr (Or.inr (Or.inr (Or.inr (Or.inr (Or.inr (Or.inl (by omega))))))))))) | exact (Or.inr (Or.inr (Or.inr (Or.inr (Or.inr (Or.inr (Or.inr (Or.inr (Or.inr (Or.inr (Or.inl (by omega))))))))))))
      · rcases bookc kb3 with hbk | hbk <;> first | exact (Or.inr (Or.inr (Or.inr (Or.inr (Or.inr (Or.inr (Or.inr (Or.inr (Or.inr (Or.inr (Or.inr (Or.inr (Or.inr (Or.inr (Or.inr (Or.inr (Or.inr (Or.inr (Or.inl (by omega)))))))))))))))))))) | exact (Or.inr (Or.inr (Or.inr (Or.inr (Or.inr (Or.inr (Or.inr (Or.inr (Or.inr (Or.inr (Or.inr (Or.inr (Or.inr (Or.inr (Or.inr (Or.inr (Or.inr (Or.inr (Or.inr (Or.inl (by omega)))))))))))))))))))))
      · rcases bookc kb3 with hbk | hbk <;> first | exact (Or.inr (Or.inr (Or.inr (Or.inr (Or.inr (Or.inr (Or.inr (Or.inr (Or.inr (Or.inr (Or.inr (Or.inr (Or.inr (Or.inr (Or.inr (Or.inr (Or.inr (Or.inr (Or.inr (Or.inr (Or.inr (Or.inr (Or.inr (Or.inr (Or.inl (by omega)))))))))))))))))))))))))) | exact (Or.inr (Or.inr (Or.inr (Or.inr (Or.inr (Or.inr (Or.inr (Or.inr (Or.inr (Or.inr (Or.inr (Or.inr (Or.inr (Or.inr (Or.inr (Or.inr (Or.inr (Or.inr (Or.inr (Or.inr (Or.inr (Or.inr (Or.inr (Or.inr (Or.inr (Or.inl (by omega)))))))))))))))))))))))))))
      · rcases bookc kb3 with hbk | hbk <;> first | exact (Or.inr (Or.inr (Or.inr (Or.inr (Or.inr (Or.inr (Or.inr (Or.inr (Or.inr (Or.inr (Or.inr (Or.inr (Or.inr (Or.inr (Or.inr (Or.inr (Or.inr (Or.inr (Or.inr (Or.inr (Or.inr (Or.inr (Or.inr (Or.inr (Or.inr (Or.inr (Or.inr (Or.inl (by omega))))))))))))))))))))))))))))) | exact (Or.inr (Or.inr (Or.inr (Or.inr (Or.inr (Or.inr (Or.inr (Or.inr (Or.inr (Or.inr (Or.inr (Or.inr (Or.inr (Or.inr (Or.inr (Or.inr (Or.inr (Or.inr (Or.inr (Or.inr (Or.inr (Or.inr (Or.inr (Or.inr (Or.inr (Or.inr (Or.inr (Or.inr (Or.inl (by omega))))))))))))))))))))))))))))))
      · rcases bookc kb3 with hbk | hbk <;> first | exact (Or.inr (Or.inr (Or.inr (Or.inr (Or.inr (Or.inr (Or.inr (Or.inr (Or.inr (Or.inr (Or.inr (Or.inr (Or.inr (Or.inr (Or.inr (Or.inr (Or.inr (Or.inr (Or.inr (Or.inr (Or.inr (Or.inr (Or.inr (Or.inr (Or.inr (Or.inr (Or.inr (Or.inr (Or.inr (Or.inl (by omega))))))))))))))))))))))))))))))) | exact (Or.inr (Or.inr (Or.inr (Or.inr (Or.inr (Or.inr (Or.inr (Or.inr (Or.inr (Or.inr (Or.inr (Or.inr (Or.inr (Or.inr (Or.inr (Or.inr (Or.inr (Or.inr (Or.inr (Or.inr (Or.inr (Or.inr (Or.inr (Or.inr (Or.inr (Or.inr (Or.inr (Or.inr (Or.inr (Or.inr (Or.inr (Or.inl (by omega)))))))))))))))))))))))))))))))))
      · rcases bookc kb3 with hbk | hbk <;> first | exact (Or.inr (Or.inr (Or.inr (Or.inr (Or.inr (Or.inr (Or.inr (Or.inr (Or.inr (Or.inr (Or.inr (Or.inr (Or.inr (Or.inr (Or.inr (Or.inr (Or.inr (Or.inr (Or.inr (Or.inr (Or.inr (Or.inr (Or.inr (Or.inr (Or.inr (Or.inr (Or.inr (Or.inr (Or.inr (Or.inr (Or.inl (by omega)))))))))))))))))))))))))))))))) | exact (Or.inr (Or.inr (Or.inr (Or.inr (Or.inr (Or.inr (Or.inr (Or.inr (Or.inr (Or.inr (Or.inr (Or.inr (Or.inr (Or.inr (Or.inr (Or.inr (Or.inr (Or.inr (Or.inr (Or.inr (Or.inr (Or.inr (Or.inr (Or.inr (Or.inr (Or.inr (Or.inr (Or.inr (Or.inr (Or.inr (Or.inr (Or.inr (by omega)))))))))))))))))))))))))))))))))
      · exact (Or.inl (by omega))
      · exact (Or.inr (Or.inr (Or.inl (by omega))))
      · exact (Or.inr (Or.inr (Or.inr (Or.inr (Or.inr (Or.inr (Or.inr (Or.inr (Or.inr (Or.inr (Or.inr (Or.inr (Or.inr (Or.inl (by omega)))))))))))))))
      · exact (Or.inr (Or.inr (Or.inr (Or.inr (Or.inr (Or.inr (Or.inr (Or.inr (Or.inr (Or.inr (Or.inr (Or.inr (Or.inr (Or.inr (Or.inl (by omega))))))))))))))))
      · exact (Or.inr (Or.inr (Or.inr (Or.inr (Or.inr (Or.inr (Or.inr (Or.inr (Or.inr (Or.inr (Or.inr (Or.inr (Or.inr (Or.inr (Or.inr (Or.inr (Or.inr (Or.inl (by omega)))))))))))))))))))
      · exact (Or.inr (Or.inr (Or.inr (Or.inr (Or.inr (Or.inr (Or.inr (Or.inr (Or.inr (Or.inr (Or.inr (Or.inr (Or.inr (Or.inr (Or.inr (Or.inr (Or.inr (Or.inr (Or.inr (Or.inr (Or.inl (by omega))))))))))))))))))))))
      · exact (Or.inr (Or.inr (Or.inr (Or.inr (Or.inr (Or.inr (Or.inr (Or.inr (Or.inr (Or.inr (Or.inr (Or.inr (Or.inr (Or.inr (Or.inr (Or.inr (Or.inr (Or.inr (Or.inr (Or.inr (Or.inr (Or.inl (by omega)))))))))))))))))))))))
      · exact (Or.inr (Or.inr (Or.inr (Or.inr (Or.inr (Or.inr (Or.inr (Or.inr (Or.inr (Or.inr (Or.inr (Or.inr (Or.inr (Or.inr (Or.inr (Or.inr (Or.inr (Or.inr (Or.inr (Or.inr (Or.inr (Or.inr (Or.inl (by omega))))))))))))))))))))))))
      · exact (Or.inr (Or.inr (Or.inr (Or.inr (Or.inr (Or.inr (Or.inr (Or.inr (Or.inr (Or.inr (Or.inr (Or.inr (Or.inr (Or.inr (Or.inr (Or.inr (Or.inr (Or.inr (Or.inr (Or.inr (Or.inr (Or.inr (Or.inr (Or.inl (by omega)))))))))))))))))))))))))
      · exact (Or.inr (Or.inr (Or.inr (Or.inr (Or.inr (Or.inr (Or.inr (Or.inr (Or.inr (Or.inr (Or.inr (Or.inr (Or.inr (Or.inr (Or.inr (Or.inr (Or.inr (Or.inr (Or.inr (Or.inr (Or.inr (Or.inr (Or.inr (Or.inr (Or.inr (Or.inr (Or.inl (by omega))))))))))))))))))))))))))))))) (show Wr_X11_text _ _ from (Or.inr (Or.inr (Or.inr (Or.inr (Or.inr (Or.inr (Or.inr (Or.inr (Or.inr (Or.inr (Or.inr (Or.inr (Or.inr (Or.inl (by omega))))))))))))))))) (show Wr_X11_text _ _ from (Or.inl (by omega)))) (Fr_mono (fr_X5_clear (res := q8) eq8) (fun a j h => by have h : Wr_X5_clear _ a j := h; unfold Wr_X5_clear at h; unfold Wr_X11_text; (exact (Or.inr (Or.inr (Or.inr (Or.inr (Or.inr (Or.inr (Or.inr (Or.inr (Or.inr (Or.inr (Or.inr (Or.inr (Or.inr (Or.inr (Or.inr (Or.inl (by omega))))))))))))))))))))) (Fr_mono (fr_X2_clear (res := q9) eq9) (fun a j h => by have h : Wr_X2_clear a j := h; unfold Wr_X2_clear at h; unfold Wr_X11_text; (exact (Or.inr (Or.inl (by omega))))))) (show Wr_X11_text _ _ from (Or.inr (Or.inr (Or.inr (Or.inr (Or.inr (Or.inr (Or.inr (Or.inr (Or.inr (Or.inr (Or.inr (Or.inr (Or.inr (Or.inr (Or.inr (Or.inr (Or.inl (by omega)))))))))))))))))))) (Fr_mono (fr_X11_forgetNet (res := q10) eq10) (fun a j h => by
      unfold Wr_X11_forgetNet at h
      unfold Wr_X11_text
      rcases h with h | h
      · exact (Or.inr (Or.inr (Or.inr (Or.inr (Or.inr (Or.inr (Or.inr (Or.inr (Or.inr (Or.inr (Or.inr (Or.inl (by omega)))))))))))))
      · exact (Or.inr (Or.inr (Or.inr (Or.inr (Or.inr (Or.inr (Or.inr (Or.inr (Or.inr (Or.inr (Or.inr (Or.inr (Or.inl (by omega)))))))))))))))))
    · have hF := (if_neg c2).symm.trans hF
      obtain rfl := Option.some.inj hF
      exact Fr.rf
def Wr_X11_percent (a : Nat) (j : Int) : Prop := (a = 46 ∧ j = 5) ∨ ((47 ≤ a ∧ a ≤ 49))
theorem fr_X11_percent {N : Nat} {v1 : Int} {v2 : Int} {v3 : Int} {σ : Sto} {res : Int × Sto} (hF : F_X11_percent N v1 v2 v3 σ = some res) : Fr (Wr_X11_percent) σ res.2 := by
  unfold F_X11_percent at hF
  obtain ⟨q1, eq1, hF⟩ := bind_some' hF
  by_cases c2 : q1 = 0
  · have hF := (if_pos c2).symm.trans hF
    obtain rfl := Option.some.inj hF
    exact Fr.rf
  · have hF := (if_neg c2).symm.trans hF
    obtain ⟨q3, eq3, hF⟩ := bind_some' hF
    by_cases c4 : q3 = 0
    · have hF := (if_pos c4).symm.trans hF
      obtain rfl := Option.some.inj hF
      exact Fr.rf
    · have hF := (if_neg c4).symm.trans hF
      obtain ⟨b5, eb5, kb5, hF⟩ := asB_some hF
      obtain ⟨q6, eq6, hF⟩ := bind_some' hF
      obtain ⟨b7, hF⟩ := inb_some hF
      obtain rfl := Option.some.inj hF
      exact (Fr_tr Fr.rf (Fr_mono (fr_X10_load (res := q6) eq6) (fun a j h => by
      unfold Wr_X10_load at h
      unfold Wr_X11_percent
      rcases h with h | h
      · exact (Or.inl (by omega))
      · exact (Or.inr (by omega)))))
def Wr_X11_share (a : Nat) (j : Int) : Prop := (a = 46 ∧ j = 5) ∨ ((47 ≤ a ∧ a ≤ 49))
theorem fr_X11_share {N : Nat} {v1 : Int} {v2 : Int} {v3 : Int} {σ : Sto} {res : Int × Sto} (hF : F_X11_share N v1 v2 v3 σ = some res) : Fr (Wr_X11_share) σ res.2 := by
  unfold F_X11_share at hF
  obtain ⟨q1, eq1, hF⟩ := bind_some' hF
  by_cases c2 : q1 = 0
  · have hF := (if_pos c2).symm.trans hF
    obtain rfl := Option.some.inj hF
    exact Fr.rf
  · have hF := (if_neg c2).symm.trans hF
    obtain ⟨q3, eq3, hF⟩ := bind_some' hF
    by_cases c4 : q3 = 0
    · have hF := (if_pos c4).symm.trans hF
      obtain rfl := Option.some.inj hF
      exact Fr.rf
    · have hF := (if_neg c4).symm.trans hF
      obtain ⟨b5, eb5, kb5, hF⟩ := asB_some hF
      obtain ⟨q6, eq6, hF⟩ := bind_some' hF
      obtain ⟨b7, hF⟩ := inb_some hF
      obtain ⟨q8, eq8, hF⟩ := bind_some' hF
      obtain rfl := Option.some.inj hF
      exact (Fr_tr Fr.rf (Fr_mono (fr_X10_load (res := q6) eq6) (fun a j h => by
      unfold Wr_X10_load at h
      unfold Wr_X11_share
      rcases h with h | h
      · exact (Or.inl (by omega))
      · exact (Or.inr (by omega)))))
def Wr_X11_parts (a : Nat) (j : Int) : Prop := (a = 46 ∧ j = 5) ∨ ((47 ≤ a ∧ a ≤ 49))
theorem fr_X11_parts {N : Nat} {v1 : Int} {v2 : Int} {v3 : Int} {σ : Sto} {res : Int × Sto} (hF : F_X11_parts N v1 v2 v3 σ = some res) : Fr (Wr_X11_parts) σ res.2 := by
  unfold F_X11_parts at hF
  obtain ⟨q1, eq1, hF⟩ := bind_some' hF
  by_cases c2 : q1 = 0
  · have hF := (if_pos c2).symm.trans hF
    obtain rfl := Option.some.inj hF
    exact Fr.rf
  · have hF := (if_neg c2).symm.trans hF
    obtain ⟨q3, eq3, hF⟩ := bind_some' hF
    by_cases c4 : q3 = 0
    · have hF := (if_pos c4).symm.trans hF
      obtain rfl := Option.some.inj hF
      exact Fr.rf
    · have hF := (if_neg c4).symm.trans hF
      obtain ⟨b5, eb5, kb5, hF⟩ := asB_some hF
      obtain ⟨q6, eq6, hF⟩ := bind_some' hF
      obtain ⟨b7, hF⟩ := inb_some hF
      obtain ⟨n8, hF⟩ := grd_some hF
      obtain ⟨n9, hF⟩ := grd_some hF
      obtain ⟨n10, hF⟩ := grd_some hF
      obtain rfl := Option.some.inj hF
      exact (Fr_tr Fr.rf (Fr_mono (fr_X10_load (res := q6) eq6) (fun a j h => by
      unfold Wr_X10_load at h
      unfold Wr_X11_parts
      rcases h with h | h
      · exact (Or.inl (by omega))
      · exact (Or.inr (by omega)))))
def Wr_X11_controls (a : Nat) (j : Int) : Prop := (a = 46 ∧ j = 5) ∨ ((47 ≤ a ∧ a ≤ 50))
theorem fr_X11_controls {N : Nat} {v1 : Int} {v2 : Int} {v3 : Int} {σ : Sto} {res : Int × Sto} (hF : F_X11_controls N v1 v2 v3 σ = some res) : Fr (Wr_X11_controls) σ res.2 := by
  unfold F_X11_controls at hF
  obtain ⟨q1, eq1, hF⟩ := bind_some' hF
  by_cases c2 : q1 = 0
  · have hF := (if_pos c2).symm.trans hF
    obtain rfl := Option.some.inj hF
    exact Fr.rf
  · have hF := (if_neg c2).symm.trans hF
    obtain ⟨q3, eq3, hF⟩ := bind_some' hF
    by_cases c4 : q3 = 0
    · have hF := (if_pos c4).symm.trans hF
      obtain rfl := Option.some.inj hF
      exact Fr.rf
    · have hF := (if_neg c4).symm.trans hF
      obtain ⟨b5, eb5, kb5, hF⟩ := asB_some hF
      obtain ⟨q6, eq6, hF⟩ := bind_some' hF
      obtain ⟨b7, eb7, kb7, hF⟩ := asB_some hF
      obtain ⟨q8, eq8, hF⟩ := bind_some' hF
      obtain ⟨b9, hF⟩ := inb_some hF
      obtain rfl := Option.some.inj hF
      exact (Fr_tr (Fr_tr Fr.rf (Fr_mono (fr_X10_load (res := q6) eq6) (fun a j h => by
      unfold Wr_X10_load at h
      unfold Wr_X11_controls
      rcases h with h | h
      · exact (Or.inl (by omega))
      · exact (Or.inr (by omega))))) (Fr_mono (fr_X10_judge (res := q8) eq8) (fun a j h => by have h : Wr_X10_judge a j := h; unfold Wr_X10_judge at h; unfold Wr_X11_controls; (exact (Or.inr (by omega))))))
def Wr_X11_related (a : Nat) (j : Int) : Prop := (a = 46 ∧ j = 5) ∨ ((47 ≤ a ∧ a ≤ 50))
theorem fr_X11_related {N : Nat} {v1 : Int} {v2 : Int} {σ : Sto} {res : Int × Sto} (hF : F_X11_related N v1 v2 σ = some res) : Fr (Wr_X11_related) σ res.2 := by
  unfold F_X11_related at hF
  obtain ⟨b1, eb1, kb1, hF⟩ := asB_some hF
  obtain ⟨q2, eq2, hF⟩ := bind_some' hF
  by_cases c3 : q2 = 0
  · have hF := (if_pos c3).symm.trans hF
    obtain rfl := Option.some.inj hF
    exact Fr.rf
  · have hF := (if_neg c3).symm.trans hF
    obtain ⟨q4, eq4, hF⟩ := bind_some' hF
    by_cases c5 : q4 = 0
    · have hF := (if_pos c5).symm.trans hF
      obtain rfl := Option.some.inj hF
      exact Fr.rf
    · have hF := (if_neg c5).symm.trans hF
      obtain ⟨b6, eb6, kb6, hF⟩ := asB_some hF
      obtain ⟨q7, eq7, hF⟩ := bind_some' hF
      obtain ⟨b8, eb8, kb8, hF⟩ := asB_some hF
      obtain ⟨q9, eq9, hF⟩ := bind_some' hF
      obtain ⟨q10, eq10, hF⟩ := bind_some' hF
      obtain rfl := Option.some.inj hF
      exact (Fr_tr (Fr_tr Fr.rf (Fr_mono (fr_X10_load (res := q7) eq7) (fun a j h => by
      unfold Wr_X10_load at h
      unfold Wr_X11_related
      rcases h with h | h
      · exact (Or.inl (by omega))
      · exact (Or.inr (by omega))))) (Fr_mono (fr_X10_judge (res := q9) eq9) (fun a j h => by have h : Wr_X10_judge a j := h; unfold Wr_X10_judge at h; unfold Wr_X11_related; (exact (Or.inr (by omega))))))
def Wr_X11_groups (a : Nat) (j : Int) : Prop := (a = 46 ∧ j = 5) ∨ ((47 ≤ a ∧ a ≤ 50))
theorem fr_X11_groups {N : Nat} {v1 : Int} {σ : Sto} {res : Int × Sto} (hF : F_X11_groups N v1 σ = some res) : Fr (Wr_X11_groups) σ res.2 := by
  unfold F_X11_groups at hF
  obtain ⟨q1, eq1, hF⟩ := bind_some' hF
  by_cases c2 : q1 = 0
  · have hF := (if_pos c2).symm.trans hF
    obtain rfl := Option.some.inj hF
    exact Fr.rf
  · have hF := (if_neg c2).symm.trans hF
    obtain ⟨b3, eb3, kb3, hF⟩ := asB_some hF
    obtain ⟨q4, eq4, hF⟩ := bind_some' hF
    obtain ⟨b5, eb5, kb5, hF⟩ := asB_some hF
    obtain ⟨q6, eq6, hF⟩ := bind_some' hF
    obtain ⟨q7, eq7, hF⟩ := bind_some' hF
    obtain rfl := Option.some.inj hF
    exact (Fr_tr (Fr_tr Fr.rf (Fr_mono (fr_X10_load (res := q4) eq4) (fun a j h => by
      unfold Wr_X10_load at h
      unfold Wr_X11_groups
      rcases h with h | h
      · exact (Or.inl (by omega))
      · exact (Or.inr (by omega))))) (Fr_mono (fr_X10_judge (res := q6) eq6) (fun a j h => by have h : Wr_X10_judge a j := h; unfold Wr_X10_judge at h; unfold Wr_X11_groups; (exact (Or.inr (by omega))))))
def Wr_X11_refreshNet (a : Nat) (j : Int) : Prop := (a = 0 ∧ j = 16) ∨ (a = 52 ∧ j = 2) ∨ (a = 46 ∧ j = 5) ∨ ((47 ≤ a ∧ a ≤ 50)) ∨ ((53 ≤ a ∧ a ≤ 54)) ∨ ((56 ≤ a ∧ a ≤ 57))
theorem fr_X11_refreshNet {N : Nat}  {σ : Sto} {res : Sto} (hF : F_X11_refreshNet N  σ = some res) : Fr (Wr_X11_refreshNet) σ res := by
  unfold F_X11_refreshNet at hF
  by_cases c1 : (σ.1 0 16) = 0
  · have hF := (if_pos c1).symm.trans hF
    obtain ⟨b2, eb2, kb2, hF⟩ := asB_some hF
    obtain ⟨b3, eb3, kb3, hF⟩ := asB_some hF
    obtain ⟨q4, eq4, hF⟩ := bind_some' hF
    obtain ⟨b5, eb5, kb5, hF⟩ := asB_some hF
    obtain ⟨b6, eb6, kb6, hF⟩ := asB_some hF
    obtain ⟨b7, eb7, kb7, hF⟩ := asB_some hF
    obtain ⟨q8, eq8, hF⟩ := bind_some' hF
    obtain rfl := Option.some.inj hF
    exact (Fr_up (Fr_tr (Fr_tr Fr.rf (Fr_mono (fr_X4_fill (res := q4) eq4) (fun a j h => by
      unfold Wr_X4_fill at h
      unfold Wr_X11_refreshNet
      rcases h with h | h | h | h
      · exact (Or.inr (Or.inl (by omega)))
      · exact (Or.inr (Or.inr (Or.inr (Or.inr (Or.inl (by omega))))))
      · exact (Or.inr (Or.inr (Or.inl (by omega))))
      · exact (Or.inr (Or.inr (Or.inr (Or.inl (by omega)))))))) (Fr_mono (fr_X6_fill (res := q8) eq8) (fun a j h => by have h : Wr_X6_fill _ _ _ _ a j := h; unfold Wr_X6_fill at h; unfold Wr_X11_refreshNet; (exact (Or.inr (Or.inr (Or.inr (Or.inr (Or.inr (by omega)))))))))) (show Wr_X11_refreshNet _ _ from (Or.inl (by omega))))
  · have hF := (if_neg c1).symm.trans hF
    obtain rfl := Option.some.inj hF
    exact Fr.rf
def Wr_X11_days (a : Nat) (j : Int) : Prop := (a = 0 ∧ j = 16) ∨ (a = 52 ∧ j = 2) ∨ (a = 46 ∧ j = 5) ∨ ((47 ≤ a ∧ a ≤ 50)) ∨ ((53 ≤ a ∧ a ≤ 54)) ∨ ((56 ≤ a ∧ a ≤ 57))
theorem fr_X11_days {N : Nat} {v1 : Int} {v2 : Int} {v3 : Int} {σ : Sto} {res : Int × Sto} (hF : F_X11_days N v1 v2 v3 σ = some res) : Fr (Wr_X11_days) σ res.2 := by
  unfold F_X11_days at hF
  obtain ⟨q1, eq1, hF⟩ := bind_some' hF
  by_cases c2 : q1 = 0
  · have hF := (if_pos c2).symm.trans hF
    obtain rfl := Option.some.inj hF
    exact Fr.rf
  · have hF := (if_neg c2).symm.trans hF
    by_cases c3 : v3 < 0
    · have hF := (if_pos c3).symm.trans hF
      obtain rfl := Option.some.inj hF
      exact Fr.rf
    · have hF := (if_neg c3).symm.trans hF
      by_cases c4 : v3 ≤ 2
      · have hF := (if_pos c4).symm.trans hF
        obtain ⟨q5, eq5, hF⟩ := bind_some' hF
        by_cases c6 : v3 = 0
        · have hF := (if_pos c6).symm.trans hF
          obtain ⟨q10, eq10, hF⟩ := bind_some' hF
          obtain rfl := Option.some.inj hF
          exact (Fr_tr Fr.rf (Fr_mono (fr_X11_refreshNet (res := q5) eq5) (fun a j h => by
      unfold Wr_X11_refreshNet at h
      unfold Wr_X11_days
      rcases h with h | h | h | h | h | h
      · exact (Or.inl (by omega))
      · exact (Or.inr (Or.inl (by omega)))
      · exact (Or.inr (Or.inr (Or.inl (by omega))))
      · exact (Or.inr (Or.inr (Or.inr (Or.inl (by omega)))))
      · exact (Or.inr (Or.inr (Or.inr (Or.inr (Or.inl (by omega))))))
      · exact (Or.inr (Or.inr (Or.inr (Or.inr (Or.inr (by omega)))))))))
        · have hF := (if_neg c6).symm.trans hF
          by_cases c7 : v3 = 1
          · have hF := (if_pos c7).symm.trans hF
            obtain ⟨q9, eq9, hF⟩ := bind_some' hF
            obtain rfl := Option.some.inj hF
            exact (Fr_tr Fr.rf (Fr_mono (fr_X11_refreshNet (res := q5) eq5) (fun a j h => by
      unfold Wr_X11_refreshNet at h
      unfold Wr_X11_days
      rcases h with h | h | h | h | h | h
      · exact (Or.inl (by omega))
      · exact (Or.inr (Or.inl (by omega)))
      · exact (Or.inr (Or.inr (Or.inl (by omega))))
      · exact (Or.inr (Or.inr (Or.inr (Or.inl (by omega)))))
      · exact (Or.inr (Or.inr (Or.inr (Or.inr (Or.inl (by omega))))))
      · exact (Or.inr (Or.inr (Or.inr (Or.inr (Or.inr (by omega)))))))))
          · have hF := (if_neg c7).symm.trans hF
            obtain ⟨q8, eq8, hF⟩ := bind_some' hF
            obtain rfl := Option.some.inj hF
            exact (Fr_tr Fr.rf (Fr_mono (fr_X11_refreshNet (res := q5) eq5) (fun a j h => by
      unfold Wr_X11_refreshNet at h
      unfold Wr_X11_days
      rcases h with h | h | h | h | h | h
      · exact (Or.inl (by omega))
      · exact (Or.inr (Or.inl (by omega)))
      · exact (Or.inr (Or.inr (Or.inl (by omega))))
      · exact (Or.inr (Or.inr (Or.inr (Or.inl (by omega)))))
      · exact (Or.inr (Or.inr (Or.inr (Or.inr (Or.inl (by omega))))))
      · exact (Or.inr (Or.inr (Or.inr (Or.inr (Or.inr (by omega)))))))))
      · have hF := (if_neg c4).symm.trans hF
        obtain rfl := Option.some.inj hF
        exact Fr.rf
def Wr_X11_steps (a : Nat) (j : Int) : Prop := (a = 46 ∧ j = 5) ∨ ((47 ≤ a ∧ a ≤ 49)) ∨ (a = 51)
theorem fr_X11_steps {N : Nat} {v1 : Int} {v2 : Int} {v3 : Int} {σ : Sto} {res : Int × Sto} (hF : F_X11_steps N v1 v2 v3 σ = some res) : Fr (Wr_X11_steps) σ res.2 := by
  unfold F_X11_steps at hF
  obtain ⟨q1, eq1, hF⟩ := bind_some' hF
  by_cases c2 : q1 = 0
  · have hF := (if_pos c2).symm.trans hF
    obtain rfl := Option.some.inj hF
    exact Fr.rf
  · have hF := (if_neg c2).symm.trans hF
    obtain ⟨q3, eq3, hF⟩ := bind_some' hF
    by_cases c4 : q3 = 0
    · have hF := (if_pos c4).symm.trans hF
      obtain rfl := Option.some.inj hF
      exact Fr.rf
    · have hF := (if_neg c4).symm.trans hF
      obtain ⟨b5, eb5, kb5, hF⟩ := asB_some hF
      obtain ⟨q6, eq6, hF⟩ := bind_some' hF
      obtain ⟨q7, eq7, hF⟩ := bind_some' hF
      obtain rfl := Option.some.inj hF
      exact (Fr_tr (Fr_tr Fr.rf (Fr_mono (fr_X10_load (res := q6) eq6) (fun a j h => by
      unfold Wr_X10_load at h
      unfold Wr_X11_steps
      rcases h with h | h
      · exact (Or.inl (by omega))
      · exact (Or.inr (Or.inl (by omega)))))) (Fr_mono (fr_X10_stepsBetween (res := q7) eq7) (fun a j h => by have h : Wr_X10_stepsBetween a j := h; unfold Wr_X10_stepsBetween at h; unfold Wr_X11_steps; (exact (Or.inr (Or.inr (by omega)))))))
def Wr_X11_own (a : Nat) (j : Int) : Prop := (a = 33 ∧ j = 1) ∨ (a = 0 ∧ j = 16) ∨ (a = 0 ∧ j = 17) ∨ (a = 52 ∧ j = 2) ∨ (a = 11 ∧ j = 4) ∨ (a = 24 ∧ j = 4) ∨ (a = 46 ∧ j = 5) ∨ ((12 ≤ a ∧ a ≤ 15)) ∨ ((25 ≤ a ∧ a ≤ 28)) ∨ (a = 34) ∨ ((47 ≤ a ∧ a ≤ 50)) ∨ ((53 ≤ a ∧ a ≤ 54)) ∨ ((56 ≤ a ∧ a ≤ 57))
theorem fr_X11_own {N : Nat} {v1 : Int} {v2 : Int} {v3 : Int} {v4 : Int} {σ : Sto} {res : Int × Sto} (hF : F_X11_own N v1 v2 v3 v4 σ = some res) : Fr (Wr_X11_own) σ res.2 := by
  unfold F_X11_own at hF
  obtain ⟨q1, eq1, hF⟩ := bind_some' hF
  by_cases c2 : q1 = 0
  · have hF := (if_pos c2).symm.trans hF
    obtain rfl := Option.some.inj hF
    exact Fr.rf
  · have hF := (if_neg c2).symm.trans hF
    by_cases c3 : v2 < v1
    · have hF := (if_pos c3).symm.trans hF
      obtain rfl := Option.some.inj hF
      exact Fr.rf
    · have hF := (if_neg c3).symm.trans hF
      obtain ⟨q4, eq4, hF⟩ := bind_some' hF
      by_cases c5 : q4 = 0
      · have hF := (if_pos c5).symm.trans hF
        obtain rfl := Option.some.inj hF
        exact Fr.rf
      · have hF := (if_neg c5).symm.trans hF
        by_cases c6 : v3 < 0
        · have hF := (if_pos c6).symm.trans hF
          obtain rfl := Option.some.inj hF
          exact Fr.rf
        · have hF := (if_neg c6).symm.trans hF
          by_cases c7 : v3 ≤ 100
          · have hF := (if_pos c7).symm.trans hF
            obtain ⟨b8, eb8, kb8, hF⟩ := asB_some hF
            by_cases c9 : (σ.1 (b8 + 8) 4) < 24
            · have hF := (if_pos c9).symm.trans hF
              obtain ⟨b10, eb10, kb10, hF⟩ := asB_some hF
              obtain ⟨q11, eq11, hF⟩ := bind_some' hF
              obtain ⟨q12, eq12, hF⟩ := bind_some' hF
              obtain ⟨q13, eq13, hF⟩ := bind_some' hF
              obtain ⟨q14, eq14, hF⟩ := bind_some' hF
              by_cases c15 : q14 = 0
              · have hF := (if_pos c15).symm.trans hF
                obtain ⟨q16, eq16, hF⟩ := bind_some' hF
                obtain ⟨b17, eb17, kb17, hF⟩ := asB_some hF
                obtain rfl := Option.some.inj hF
                exact (Fr_tr (Fr_tr (Fr_tr (Fr_tr Fr.rf (Fr_mono (fr_X7_add (res := q11) eq11) (fun a j h => by
      unfold Wr_X7_add at h
      unfold Wr_X11_own
      rcases h with h | h
      · rcases bookc kb10 with hbk | hbk <;> first | exact (Or.inr (Or.inr (Or.inr (Or.inr (Or.inl (by omega)))))) | exact (Or.inr (Or.inr (Or.inr (Or.inr (Or.inr (Or.inl (by omega)))))))
      · rcases bookc kb10 with hbk | hbk <;> first | exact (Or.inr (Or.inr (Or.inr (Or.inr (Or.inr (Or.inr (Or.inr (Or.inl (by omega))))))))) | exact (Or.inr (Or.inr (Or.inr (Or.inr (Or.inr (Or.inr (Or.inr (Or.inr (Or.inl (by omega))))))))))))) (Fr_mono (fr_X11_forgetNet (res := q12) eq12) (fun a j h => by
      unfold Wr_X11_forgetNet at h
      unfold Wr_X11_own
      rcases h with h | h
      · exact (Or.inr (Or.inl (by omega)))
      · exact (Or.inr (Or.inr (Or.inl (by omega))))))) (Fr_mono (fr_X11_refreshNet (res := q13) eq13) (fun a j h => by
      unfold Wr_X11_refreshNet at h
      unfold Wr_X11_own
      rcases h with h | h | h | h | h | h
      · exact (Or.inr (Or.inl (by omega)))
      · exact (Or.inr (Or.inr (Or.inr (Or.inl (by omega)))))
      · exact (Or.inr (Or.inr (Or.inr (Or.inr (Or.inr (Or.inr (Or.inl (by omega))))))))
      · exact (Or.inr (Or.inr (Or.inr (Or.inr (Or.inr (Or.inr (Or.inr (Or.inr (Or.inr (Or.inr (Or.inl (by omega))))))))))))
      · exact (Or.inr (Or.inr (Or.inr (Or.inr (Or.inr (Or.inr (Or.inr (Or.inr (Or.inr (Or.inr (Or.inr (Or.inl (by omega)))))))))))))
      · exact (Or.inr (Or.inr (Or.inr (Or.inr (Or.inr (Or.inr (Or.inr (Or.inr (Or.inr (Or.inr (Or.inr (Or.inr (by omega)))))))))))))))) (Fr_mono (fr_X2_push (res := q16) eq16) (fun a j h => by
      unfold Wr_X2_push at h
      unfold Wr_X11_own
      rcases h with h | h
      · exact (Or.inl (by omega))
      · exact (Or.inr (Or.inr (Or.inr (Or.inr (Or.inr (Or.inr (Or.inr (Or.inr (Or.inr (Or.inl (by omega))))))))))))))
              · have hF := (if_neg c15).symm.trans hF
                obtain ⟨b18, eb18, kb18, hF⟩ := asB_some hF
                obtain ⟨q19, eq19, hF⟩ := bind_some' hF
                obtain ⟨q20, eq20, hF⟩ := bind_some' hF
                obtain rfl := Option.some.inj hF
                exact (Fr_tr (Fr_tr (Fr_tr (Fr_tr (Fr_tr Fr.rf (Fr_mono (fr_X7_add (res := q11) eq11) (fun a j h => by
      unfold Wr_X7_add at h
      unfold Wr_X11_own
      rcases h with h | h
      · rcases bookc kb10 with hbk | hbk <;> first | exact (Or.inr (Or.inr (Or.inr (Or.inr (Or.inl (by omega)))))) | exact (Or.inr (Or.inr (Or.inr (Or.inr (Or.inr (Or.inl (by omega)))))))
      · rcases bookc kb10 with hbk | hbk <;> first | exact (Or.inr (Or.inr (Or.inr (Or.inr (Or.inr (Or.inr (Or.inr (Or.inl (by omega))))))))) | exact (Or.inr (Or.inr (Or.inr (Or.inr (Or.inr (Or.inr (Or.inr (Or.inr (Or.inl (by omega))))))))))))) (Fr_mono (fr_X11_forgetNet (res := q12) eq12) (fun a j h => by
      unfold Wr_X11_forgetNet at h
      unfold Wr_X11_own
      rcases h with h | h
      · exact (Or.inr (Or.inl (by omega)))
      · exact (Or.inr (Or.inr (Or.inl (by omega))))))) (Fr_mono (fr_X11_refreshNet (res := q13) eq13) (fun a j h => by
      unfold Wr_X11_refreshNet at h
      unfold Wr_X11_own
      rcases h with h | h | h | h | h | h
      · exact (Or.inr (Or.inl (by omega)))
      · exact (Or.inr (Or.inr (Or.inr (Or.inl (by omega)))))
      · exact (Or.inr (Or.inr (Or.inr (Or.inr (Or.inr (Or.inr (Or.inl (by omega))))))))
      · exact (Or.inr (Or.inr (Or.inr (Or.inr (Or.inr (Or.inr (Or.inr (Or.inr (Or.inr (Or.inr (Or.inl (by omega))))))))))))
      · exact (Or.inr (Or.inr (Or.inr (Or.inr (Or.inr (Or.inr (Or.inr (Or.inr (Or.inr (Or.inr (Or.inr (Or.inl (by omega)))))))))))))
      · exact (Or.inr (Or.inr (Or.inr (Or.inr (Or.inr (Or.inr (Or.inr (Or.inr (Or.inr (Or.inr (Or.inr (Or.inr (by omega)))))))))))))))) (Fr_mono (fr_X7_dropLast (res := q19) eq19) (fun a j h => by have h : Wr_X7_dropLast _ a j := h; unfold Wr_X7_dropLast at h; unfold Wr_X11_own; (rcases bookc kb18 with hbk | hbk <;> first | exact (Or.inr (Or.inr (Or.inr (Or.inr (Or.inl (by omega)))))) | exact (Or.inr (Or.inr (Or.inr (Or.inr (Or.inr (Or.inl (by omega))))))))))) (Fr_mono (fr_X11_forgetNet (res := q20) eq20) (fun a j h => by
      unfold Wr_X11_forgetNet at h
      unfold Wr_X11_own
      rcases h with h | h
      · exact (Or.inr (Or.inl (by omega)))
      · exact (Or.inr (Or.inr (Or.inl (by omega)))))))
            · have hF := (if_neg c9).symm.trans hF
              obtain rfl := Option.some.inj hF
              exact Fr.rf
          · have hF := (if_neg c7).symm.trans hF
            obtain rfl := Option.some.inj hF
            exact Fr.rf
def Wr_X11_shared (a : Nat) (j : Int) : Prop := (a = 0 ∧ j = 16) ∨ (a = 52 ∧ j = 2) ∨ (a = 46 ∧ j = 5) ∨ ((47 ≤ a ∧ a ≤ 50)) ∨ ((53 ≤ a ∧ a ≤ 54)) ∨ ((56 ≤ a ∧ a ≤ 57))
theorem fr_X11_shared {N : Nat} {v1 : Int} {v2 : Int} {σ : Sto} {res : Int × Sto} (hF : F_X11_shared N v1 v2 σ = some res) : Fr (Wr_X11_shared) σ res.2 := by
  unfold F_X11_shared at hF
  obtain ⟨b1, eb1, kb1, hF⟩ := asB_some hF
  obtain ⟨q2, eq2, hF⟩ := bind_some' hF
  by_cases c3 : q2 = 0
  · have hF := (if_pos c3).symm.trans hF
    obtain rfl := Option.some.inj hF
    exact Fr.rf
  · have hF := (if_neg c3).symm.trans hF
    obtain ⟨b4, eb4, kb4, hF⟩ := asB_some hF
    obtain ⟨q5, eq5, hF⟩ := bind_some' hF
    by_cases c6 : q5 = 0
    · have hF := (if_pos c6).symm.trans hF
      obtain rfl := Option.some.inj hF
      exact Fr.rf
    · have hF := (if_neg c6).symm.trans hF
      obtain ⟨b7, eb7, kb7, hF⟩ := asB_some hF
      obtain ⟨b8, hF⟩ := inb_some hF
      obtain ⟨b9, eb9, kb9, hF⟩ := asB_some hF
      obtain ⟨b10, hF⟩ := inb_some hF
      by_cases c11 : (σ.1 (b7 + 4) v1) = (σ.1 (b9 + 4) v2)
      · have hF := (if_pos c11).symm.trans hF
        obtain rfl := Option.some.inj hF
        exact Fr.rf
      · have hF := (if_neg c11).symm.trans hF
        obtain ⟨q12, eq12, hF⟩ := bind_some' hF
        obtain ⟨b13, eb13, kb13, hF⟩ := asB_some hF
        obtain ⟨b14, eb14, kb14, hF⟩ := asB_some hF
        obtain ⟨b15, eb15, kb15, hF⟩ := asB_some hF
        obtain ⟨b16, eb16, kb16, hF⟩ := asB_some hF
        obtain ⟨b17, eb17, kb17, hF⟩ := asB_some hF
        obtain ⟨b18, eb18, kb18, hF⟩ := asB_some hF
        obtain ⟨q19, eq19, hF⟩ := bind_some' hF
        obtain rfl := Option.some.inj hF
        exact (Fr_tr Fr.rf (Fr_mono (fr_X11_refreshNet (res := q12) eq12) (fun a j h => by
      unfold Wr_X11_refreshNet at h
      unfold Wr_X11_shared
      rcases h with h | h | h | h | h | h
      · exact (Or.inl (by omega))
      · exact (Or.inr (Or.inl (by omega)))
      · exact (Or.inr (Or.inr (Or.inl (by omega))))
      · exact (Or.inr (Or.inr (Or.inr (Or.inl (by omega)))))
      · exact (Or.inr (Or.inr (Or.inr (Or.inr (Or.inl (by omega))))))
      · exact (Or.inr (Or.inr (Or.inr (Or.inr (Or.inr (by omega)))))))))
def Wr_X11_isLink (a : Nat) (j : Int) : Prop := (a = 0 ∧ j = 16) ∨ (a = 52 ∧ j = 2) ∨ (a = 46 ∧ j = 5) ∨ ((47 ≤ a ∧ a ≤ 50)) ∨ ((53 ≤ a ∧ a ≤ 54)) ∨ ((56 ≤ a ∧ a ≤ 57))
theorem fr_X11_isLink {N : Nat} {v1 : Int} {v2 : Int} {σ : Sto} {res : Int × Sto} (hF : F_X11_isLink N v1 v2 σ = some res) : Fr (Wr_X11_isLink) σ res.2 := by
  unfold F_X11_isLink at hF
  obtain ⟨b1, eb1, kb1, hF⟩ := asB_some hF
  obtain ⟨q2, eq2, hF⟩ := bind_some' hF
  by_cases c3 : q2 = 0
  · have hF := (if_pos c3).symm.trans hF
    obtain rfl := Option.some.inj hF
    exact Fr.rf
  · have hF := (if_neg c3).symm.trans hF
    obtain ⟨b4, eb4, kb4, hF⟩ := asB_some hF
    obtain ⟨q5, eq5, hF⟩ := bind_some' hF
    by_cases c6 : q5 = 0
    · have hF := (if_pos c6).symm.trans hF
      obtain rfl := Option.some.inj hF
      exact Fr.rf
    · have hF := (if_neg c6).symm.trans hF
      obtain ⟨q7, eq7, hF⟩ := bind_some' hF
      obtain ⟨b8, hF⟩ := inb_some hF
      by_cases c9 : (q7.1 56 (ja (jm v1 12) v2)) < 0
      · have hF := (if_pos c9).symm.trans hF
        obtain rfl := Option.some.inj hF
        exact (Fr_tr Fr.rf (Fr_mono (fr_X11_refreshNet (res := q7) eq7) (fun a j h => by
      unfold Wr_X11_refreshNet at h
      unfold Wr_X11_isLink
      rcases h with h | h | h | h | h | h
      · exact (Or.inl (by omega))
      · exact (Or.inr (Or.inl (by omega)))
      · exact (Or.inr (Or.inr (Or.inl (by omega))))
      · exact (Or.inr (Or.inr (Or.inr (Or.inl (by omega)))))
      · exact (Or.inr (Or.inr (Or.inr (Or.inr (Or.inl (by omega))))))
      · exact (Or.inr (Or.inr (Or.inr (Or.inr (Or.inr (by omega)))))))))
      · have hF := (if_neg c9).symm.trans hF
        obtain rfl := Option.some.inj hF
        exact (Fr_tr Fr.rf (Fr_mono (fr_X11_refreshNet (res := q7) eq7) (fun a j h => by
      unfold Wr_X11_refreshNet at h
      unfold Wr_X11_isLink
      rcases h with h | h | h | h | h | h
      · exact (Or.inl (by omega))
      · exact (Or.inr (Or.inl (by omega)))
      · exact (Or.inr (Or.inr (Or.inl (by omega))))
      · exact (Or.inr (Or.inr (Or.inr (Or.inl (by omega)))))
      · exact (Or.inr (Or.inr (Or.inr (Or.inr (Or.inl (by omega))))))
      · exact (Or.inr (Or.inr (Or.inr (Or.inr (Or.inr (by omega)))))))))
def Wr_X11_bound (a : Nat) (j : Int) : Prop := (a = 0 ∧ j = 16) ∨ (a = 52 ∧ j = 2) ∨ (a = 46 ∧ j = 5) ∨ ((47 ≤ a ∧ a ≤ 50)) ∨ ((53 ≤ a ∧ a ≤ 54)) ∨ ((56 ≤ a ∧ a ≤ 57))
theorem fr_X11_bound {N : Nat} {v1 : Int} {v2 : Int} {σ : Sto} {res : Int × Sto} (hF : F_X11_bound N v1 v2 σ = some res) : Fr (Wr_X11_bound) σ res.2 := by
  unfold F_X11_bound at hF
  obtain ⟨q1, eq1, hF⟩ := bind_some' hF
  by_cases c2 : q1.1 = 0
  · have hF := (if_pos c2).symm.trans hF
    obtain rfl := Option.some.inj hF
    exact (Fr_tr Fr.rf (Fr_mono (fr_X11_isLink (res := q1) eq1) (fun a j h => by
      unfold Wr_X11_isLink at h
      unfold Wr_X11_bound
      rcases h with h | h | h | h | h | h
      · exact (Or.inl (by omega))
      · exact (Or.inr (Or.inl (by omega)))
      · exact (Or.inr (Or.inr (Or.inl (by omega))))
      · exact (Or.inr (Or.inr (Or.inr (Or.inl (by omega)))))
      · exact (Or.inr (Or.inr (Or.inr (Or.inr (Or.inl (by omega))))))
      · exact (Or.inr (Or.inr (Or.inr (Or.inr (Or.inr (by omega)))))))))
  · have hF := (if_neg c2).symm.trans hF
    obtain ⟨b3, hF⟩ := inb_some hF
    obtain rfl := Option.some.inj hF
    exact (Fr_tr Fr.rf (Fr_mono (fr_X11_isLink (res := q1) eq1) (fun a j h => by
      unfold Wr_X11_isLink at h
      unfold Wr_X11_bound
      rcases h with h | h | h | h | h | h
      · exact (Or.inl (by omega))
      · exact (Or.inr (Or.inl (by omega)))
      · exact (Or.inr (Or.inr (Or.inl (by omega))))
      · exact (Or.inr (Or.inr (Or.inr (Or.inl (by omega)))))
      · exact (Or.inr (Or.inr (Or.inr (Or.inr (Or.inl (by omega))))))
      · exact (Or.inr (Or.inr (Or.inr (Or.inr (Or.inr (by omega)))))))))
def Wr_X11_room (a : Nat) (j : Int) : Prop := (a = 0 ∧ j = 16) ∨ (a = 52 ∧ j = 2) ∨ (a = 46 ∧ j = 5) ∨ ((47 ≤ a ∧ a ≤ 50)) ∨ ((53 ≤ a ∧ a ≤ 54)) ∨ ((56 ≤ a ∧ a ≤ 57))
theorem fr_X11_room {N : Nat} {v1 : Int} {v2 : Int} {σ : Sto} {res : Int × Sto} (hF : F_X11_room N v1 v2 σ = some res) : Fr (Wr_X11_room) σ res.2 := by
  unfold F_X11_room at hF
  obtain ⟨q1, eq1, hF⟩ := bind_some' hF
  by_cases c2 : q1.1 = 0
  · have hF := (if_pos c2).symm.trans hF
    obtain rfl := Option.some.inj hF
    exact (Fr_tr Fr.rf (Fr_mono (fr_X11_isLink (res := q1) eq1) (fun a j h => by
      unfold Wr_X11_isLink at h
      unfold Wr_X11_room
      rcases h with h | h | h | h | h | h
      · exact (Or.inl (by omega))
      · exact (Or.inr (Or.inl (by omega)))
      · exact (Or.inr (Or.inr (Or.inl (by omega))))
      · exact (Or.inr (Or.inr (Or.inr (Or.inl (by omega)))))
      · exact (Or.inr (Or.inr (Or.inr (Or.inr (Or.inl (by omega))))))
      · exact (Or.inr (Or.inr (Or.inr (Or.inr (Or.inr (by omega)))))))))
  · have hF := (if_neg c2).symm.trans hF
    obtain ⟨b3, hF⟩ := inb_some hF
    obtain ⟨q4, eq4, hF⟩ := bind_some' hF
    obtain rfl := Option.some.inj hF
    exact (Fr_tr Fr.rf (Fr_mono (fr_X11_isLink (res := q1) eq1) (fun a j h => by
      unfold Wr_X11_isLink at h
      unfold Wr_X11_room
      rcases h with h | h | h | h | h | h
      · exact (Or.inl (by omega))
      · exact (Or.inr (Or.inl (by omega)))
      · exact (Or.inr (Or.inr (Or.inl (by omega))))
      · exact (Or.inr (Or.inr (Or.inr (Or.inl (by omega)))))
      · exact (Or.inr (Or.inr (Or.inr (Or.inr (Or.inl (by omega))))))
      · exact (Or.inr (Or.inr (Or.inr (Or.inr (Or.inr (by omega)))))))))
def Wr_X11_price (a : Nat) (j : Int) : Prop := (a = 0 ∧ j = 16) ∨ (a = 52 ∧ j = 2) ∨ (a = 46 ∧ j = 5) ∨ ((47 ≤ a ∧ a ≤ 50)) ∨ ((53 ≤ a ∧ a ≤ 54)) ∨ ((56 ≤ a ∧ a ≤ 57))
theorem fr_X11_price {N : Nat} {v1 : Int} {v2 : Int} {σ : Sto} {res : Int × Sto} (hF : F_X11_price N v1 v2 σ = some res) : Fr (Wr_X11_price) σ res.2 := by
  unfold F_X11_price at hF
  obtain ⟨q1, eq1, hF⟩ := bind_some' hF
  by_cases c2 : q1.1 = 0
  · have hF := (if_pos c2).symm.trans hF
    obtain rfl := Option.some.inj hF
    exact (Fr_tr Fr.rf (Fr_mono (fr_X11_isLink (res := q1) eq1) (fun a j h => by
      unfold Wr_X11_isLink at h
      unfold Wr_X11_price
      rcases h with h | h | h | h | h | h
      · exact (Or.inl (by omega))
      · exact (Or.inr (Or.inl (by omega)))
      · exact (Or.inr (Or.inr (Or.inl (by omega))))
      · exact (Or.inr (Or.inr (Or.inr (Or.inl (by omega)))))
      · exact (Or.inr (Or.inr (Or.inr (Or.inr (Or.inl (by omega))))))
      · exact (Or.inr (Or.inr (Or.inr (Or.inr (Or.inr (by omega)))))))))
  · have hF := (if_neg c2).symm.trans hF
    obtain ⟨b3, hF⟩ := inb_some hF
    obtain rfl := Option.some.inj hF
    exact (Fr_tr Fr.rf (Fr_mono (fr_X11_isLink (res := q1) eq1) (fun a j h => by
      unfold Wr_X11_isLink at h
      unfold Wr_X11_price
      rcases h with h | h | h | h | h | h
      · exact (Or.inl (by omega))
      · exact (Or.inr (Or.inl (by omega)))
      · exact (Or.inr (Or.inr (Or.inl (by omega))))
      · exact (Or.inr (Or.inr (Or.inr (Or.inl (by omega)))))
      · exact (Or.inr (Or.inr (Or.inr (Or.inr (Or.inl (by omega))))))
      · exact (Or.inr (Or.inr (Or.inr (Or.inr (Or.inr (by omega)))))))))
def Wr_X11_enter (v1 : Nat) (a : Nat) (j : Int) : Prop := (a = v1 ∧ j = 3) ∨ ((v1 + 1 ≤ a ∧ a ≤ v1 + 3)) ∨ (a = 0 ∧ j = 16) ∨ (a = 52 ∧ j = 2) ∨ (a = 46 ∧ j = 5) ∨ ((47 ≤ a ∧ a ≤ 50)) ∨ ((53 ≤ a ∧ a ≤ 54)) ∨ ((56 ≤ a ∧ a ≤ 57))
theorem fr_X11_enter {N : Nat} {v1 : Nat} {v2 : Int} {v3 : Int} {v4 : Int} {σ : Sto} {res : Int × Sto} (hF : F_X11_enter N v1 v2 v3 v4 σ = some res) : Fr (Wr_X11_enter v1) σ res.2 := by
  unfold F_X11_enter at hF
  by_cases c1 : v4 < 1
  · have hF := (if_pos c1).symm.trans hF
    obtain rfl := Option.some.inj hF
    exact Fr.rf
  · have hF := (if_neg c1).symm.trans hF
    by_cases c2 : 99999 < v4
    · have hF := (if_pos c2).symm.trans hF
      obtain rfl := Option.some.inj hF
      exact Fr.rf
    · have hF := (if_neg c2).symm.trans hF
      obtain ⟨q3, eq3, hF⟩ := bind_some' hF
      by_cases c4 : q3.1 = 0
      · have hF := (if_pos c4).symm.trans hF
        obtain rfl := Option.some.inj hF
        exact (Fr_tr Fr.rf (Fr_mono (fr_X11_isLink (res := q3) eq3) (fun a j h => by
      unfold Wr_X11_isLink at h
      unfold Wr_X11_enter
      rcases h with h | h | h | h | h | h
      · exact (Or.inr (Or.inr (Or.inl (by omega))))
      · exact (Or.inr (Or.inr (Or.inr (Or.inl (by omega)))))
      · exact (Or.inr (Or.inr (Or.inr (Or.inr (Or.inl (by omega))))))
      · exact (Or.inr (Or.inr (Or.inr (Or.inr (Or.inr (Or.inl (by omega)))))))
      · exact (Or.inr (Or.inr (Or.inr (Or.inr (Or.inr (Or.inr (Or.inl (by omega))))))))
      · exact (Or.inr (Or.inr (Or.inr (Or.inr (Or.inr (Or.inr (Or.inr (by omega)))))))))))
      · have hF := (if_neg c4).symm.trans hF
        by_cases c5 : (q3.2.1 v1 3) < 30
        · have hF := (if_pos c5).symm.trans hF
          obtain ⟨b6, hF⟩ := inb_some hF
          obtain ⟨q7, eq7, hF⟩ := bind_some' hF
          by_cases c8 : (js (q3.2.1 56 (ja (jm v2 12) v3)) q7) < v4
          · have hF := (if_pos c8).symm.trans hF
            obtain rfl := Option.some.inj hF
            exact (Fr_tr Fr.rf (Fr_mono (fr_X11_isLink (res := q3) eq3) (fun a j h => by
      unfold Wr_X11_isLink at h
      unfold Wr_X11_enter
      rcases h with h | h | h | h | h | h
      · exact (Or.inr (Or.inr (Or.inl (by omega))))
      · exact (Or.inr (Or.inr (Or.inr (Or.inl (by omega)))))
      · exact (Or.inr (Or.inr (Or.inr (Or.inr (Or.inl (by omega))))))
      · exact (Or.inr (Or.inr (Or.inr (Or.inr (Or.inr (Or.inl (by omega)))))))
      · exact (Or.inr (Or.inr (Or.inr (Or.inr (Or.inr (Or.inr (Or.inl (by omega))))))))
      · exact (Or.inr (Or.inr (Or.inr (Or.inr (Or.inr (Or.inr (Or.inr (by omega)))))))))))
          · have hF := (if_neg c8).symm.trans hF
            obtain ⟨q9, eq9, hF⟩ := bind_some' hF
            by_cases c10 : q9 < v4
            · have hF := (if_pos c10).symm.trans hF
              obtain rfl := Option.some.inj hF
              exact (Fr_tr Fr.rf (Fr_mono (fr_X11_isLink (res := q3) eq3) (fun a j h => by
      unfold Wr_X11_isLink at h
      unfold Wr_X11_enter
      rcases h with h | h | h | h | h | h
      · exact (Or.inr (Or.inr (Or.inl (by omega))))
      · exact (Or.inr (Or.inr (Or.inr (Or.inl (by omega)))))
      · exact (Or.inr (Or.inr (Or.inr (Or.inr (Or.inl (by omega))))))
      · exact (Or.inr (Or.inr (Or.inr (Or.inr (Or.inr (Or.inl (by omega)))))))
      · exact (Or.inr (Or.inr (Or.inr (Or.inr (Or.inr (Or.inr (Or.inl (by omega))))))))
      · exact (Or.inr (Or.inr (Or.inr (Or.inr (Or.inr (Or.inr (Or.inr (by omega)))))))))))
            · have hF := (if_neg c10).symm.trans hF
              obtain ⟨q11, eq11, hF⟩ := bind_some' hF
              by_cases c12 : v4 ≤ q11
              · have hF := (if_pos c12).symm.trans hF
                obtain ⟨q13, eq13, hF⟩ := bind_some' hF
                obtain rfl := Option.some.inj hF
                exact (Fr_tr (Fr_tr Fr.rf (Fr_mono (fr_X11_isLink (res := q3) eq3) (fun a j h => by
      unfold Wr_X11_isLink at h
      unfold Wr_X11_enter
      rcases h with h | h | h | h | h | h
      · exact (Or.inr (Or.inr (Or.inl (by omega))))
      · exact (Or.inr (Or.inr (Or.inr (Or.inl (by omega)))))
      · exact (Or.inr (Or.inr (Or.inr (Or.inr (Or.inl (by omega))))))
      · exact (Or.inr (Or.inr (Or.inr (Or.inr (Or.inr (Or.inl (by omega)))))))
      · exact (Or.inr (Or.inr (Or.inr (Or.inr (Or.inr (Or.inr (Or.inl (by omega))))))))
      · exact (Or.inr (Or.inr (Or.inr (Or.inr (Or.inr (Or.inr (Or.inr (by omega))))))))))) (Fr_mono (fr_X5_insert (res := q13) eq13) (fun a j h => by
      unfold Wr_X5_insert at h
      unfold Wr_X11_enter
      rcases h with h | h
      · exact (Or.inl (by omega))
      · exact (Or.inr (Or.inl (by omega))))))
              · have hF := (if_neg c12).symm.trans hF
                obtain rfl := Option.some.inj hF
                exact (Fr_tr Fr.rf (Fr_mono (fr_X11_isLink (res := q3) eq3) (fun a j h => by
      unfold Wr_X11_isLink at h
      unfold Wr_X11_enter
      rcases h with h | h | h | h | h | h
      · exact (Or.inr (Or.inr (Or.inl (by omega))))
      · exact (Or.inr (Or.inr (Or.inr (Or.inl (by omega)))))
      · exact (Or.inr (Or.inr (Or.inr (Or.inr (Or.inl (by omega))))))
      · exact (Or.inr (Or.inr (Or.inr (Or.inr (Or.inr (Or.inl (by omega)))))))
      · exact (Or.inr (Or.inr (Or.inr (Or.inr (Or.inr (Or.inr (Or.inl (by omega))))))))
      · exact (Or.inr (Or.inr (Or.inr (Or.inr (Or.inr (Or.inr (Or.inr (by omega)))))))))))
        · have hF := (if_neg c5).symm.trans hF
          obtain rfl := Option.some.inj hF
          exact (Fr_tr Fr.rf (Fr_mono (fr_X11_isLink (res := q3) eq3) (fun a j h => by
      unfold Wr_X11_isLink at h
      unfold Wr_X11_enter
      rcases h with h | h | h | h | h | h
      · exact (Or.inr (Or.inr (Or.inl (by omega))))
      · exact (Or.inr (Or.inr (Or.inr (Or.inl (by omega)))))
      · exact (Or.inr (Or.inr (Or.inr (Or.inr (Or.inl (by omega))))))
      · exact (Or.inr (Or.inr (Or.inr (Or.inr (Or.inr (Or.inl (by omega)))))))
      · exact (Or.inr (Or.inr (Or.inr (Or.inr (Or.inr (Or.inr (Or.inl (by omega))))))))
      · exact (Or.inr (Or.inr (Or.inr (Or.inr (Or.inr (Or.inr (Or.inr (by omega)))))))))))
def Wr_X11_claim (a : Nat) (j : Int) : Prop := (a = 33 ∧ j = 1) ∨ (a = 0 ∧ j = 16) ∨ (a = 0 ∧ j = 17) ∨ (a = 52 ∧ j = 2) ∨ (a = 29 ∧ j = 3) ∨ (a = 46 ∧ j = 5) ∨ ((30 ≤ a ∧ a ≤ 32)) ∨ (a = 34) ∨ ((47 ≤ a ∧ a ≤ 50)) ∨ ((53 ≤ a ∧ a ≤ 54)) ∨ ((56 ≤ a ∧ a ≤ 57))
theorem fr_X11_claim {N : Nat} {v1 : Int} {v2 : Int} {v3 : Int} {σ : Sto} {res : Int × Sto} (hF : F_X11_claim N v1 v2 v3 σ = some res) : Fr (Wr_X11_claim) σ res.2 := by
  unfold F_X11_claim at hF
  obtain ⟨q1, eq1, hF⟩ := bind_some' hF
  by_cases c2 : q1.1 < 0
  · have hF := (if_pos c2).symm.trans hF
    obtain rfl := Option.some.inj hF
    exact (Fr_tr Fr.rf (Fr_mono (fr_X11_enter (res := q1) eq1) (fun a j h => by
      unfold Wr_X11_enter at h
      unfold Wr_X11_claim
      rcases h with h | h | h | h | h | h | h | h
      · exact (Or.inr (Or.inr (Or.inr (Or.inr (Or.inl (by omega))))))
      · exact (Or.inr (Or.inr (Or.inr (Or.inr (Or.inr (Or.inr (Or.inl (by omega))))))))
      · exact (Or.inr (Or.inl (by omega)))
      · exact (Or.inr (Or.inr (Or.inr (Or.inl (by omega)))))
      · exact (Or.inr (Or.inr (Or.inr (Or.inr (Or.inr (Or.inl (by omega)))))))
      · exact (Or.inr (Or.inr (Or.inr (Or.inr (Or.inr (Or.inr (Or.inr (Or.inr (Or.inl (by omega))))))))))
      · exact (Or.inr (Or.inr (Or.inr (Or.inr (Or.inr (Or.inr (Or.inr (Or.inr (Or.inr (Or.inl (by omega)))))))))))
      · exact (Or.inr (Or.inr (Or.inr (Or.inr (Or.inr (Or.inr (Or.inr (Or.inr (Or.inr (Or.inr (by omega))))))))))))))
  · have hF := (if_neg c2).symm.trans hF
    obtain ⟨q3, eq3, hF⟩ := bind_some' hF
    obtain rfl := Option.some.inj hF
    exact (Fr_up (Fr_tr (Fr_tr Fr.rf (Fr_mono (fr_X11_enter (res := q1) eq1) (fun a j h => by
      unfold Wr_X11_enter at h
      unfold Wr_X11_claim
      rcases h with h | h | h | h | h | h | h | h
      · exact (Or.inr (Or.inr (Or.inr (Or.inr (Or.inl (by omega))))))
      · exact (Or.inr (Or.inr (Or.inr (Or.inr (Or.inr (Or.inr (Or.inl (by omega))))))))
      · exact (Or.inr (Or.inl (by omega)))
      · exact (Or.inr (Or.inr (Or.inr (Or.inl (by omega)))))
      · exact (Or.inr (Or.inr (Or.inr (Or.inr (Or.inr (Or.inl (by omega)))))))
      · exact (Or.inr (Or.inr (Or.inr (Or.inr (Or.inr (Or.inr (Or.inr (Or.inr (Or.inl (by omega))))))))))
      · exact (Or.inr (Or.inr (Or.inr (Or.inr (Or.inr (Or.inr (Or.inr (Or.inr (Or.inr (Or.inl (by omega)))))))))))
      · exact (Or.inr (Or.inr (Or.inr (Or.inr (Or.inr (Or.inr (Or.inr (Or.inr (Or.inr (Or.inr (by omega)))))))))))))) (Fr_mono (fr_X2_push (res := q3) eq3) (fun a j h => by
      unfold Wr_X2_push at h
      unfold Wr_X11_claim
      rcases h with h | h
      · exact (Or.inl (by omega))
      · exact (Or.inr (Or.inr (Or.inr (Or.inr (Or.inr (Or.inr (Or.inr (Or.inl (by omega)))))))))))) (show Wr_X11_claim _ _ from (Or.inr (Or.inr (Or.inl (by omega))))))
def Wr_X11_withdraw (a : Nat) (j : Int) : Prop := (a = 33 ∧ j = 1) ∨ (a = 0 ∧ j = 17) ∨ (a = 29 ∧ j = 3) ∨ ((30 ≤ a ∧ a ≤ 32)) ∨ (a = 34)
theorem fr_X11_withdraw {N : Nat} {v1 : Int} {σ : Sto} {res : Int × Sto} (hF : F_X11_withdraw N v1 σ = some res) : Fr (Wr_X11_withdraw) σ res.2 := by
  unfold F_X11_withdraw at hF
  obtain ⟨q1, eq1, hF⟩ := bind_some' hF
  by_cases c2 : q1 = 0
  · have hF := (if_pos c2).symm.trans hF
    obtain rfl := Option.some.inj hF
    exact Fr.rf
  · have hF := (if_neg c2).symm.trans hF
    obtain ⟨b3, hF⟩ := inb_some hF
    obtain ⟨q4, eq4, hF⟩ := bind_some' hF
    obtain ⟨q5, eq5, hF⟩ := bind_some' hF
    obtain rfl := Option.some.inj hF
    exact (Fr_up (Fr_tr (Fr_tr Fr.rf (Fr_mono (fr_X2_push (res := q4) eq4) (fun a j h => by
      unfold Wr_X2_push at h
      unfold Wr_X11_withdraw
      rcases h with h | h
      · exact (Or.inl (by omega))
      · exact (Or.inr (Or.inr (Or.inr (Or.inr (by omega)))))))) (Fr_mono (fr_X5_remove (res := q5) eq5) (fun a j h => by
      unfold Wr_X5_remove at h
      unfold Wr_X11_withdraw
      rcases h with h | h
      · exact (Or.inr (Or.inr (Or.inl (by omega))))
      · exact (Or.inr (Or.inr (Or.inr (Or.inl (by omega)))))))) (show Wr_X11_withdraw _ _ from (Or.inr (Or.inl (by omega)))))
def Wr_X11_refreshFlow (a : Nat) (j : Int) : Prop := (a = 58 ∧ j = 10) ∨ (a = 58 ∧ j = 11) ∨ (a = 58 ∧ j = 12) ∨ (a = 58 ∧ j = 13) ∨ (a = 0 ∧ j = 16) ∨ (a = 0 ∧ j = 17) ∨ (a = 52 ∧ j = 2) ∨ (a = 46 ∧ j = 5) ∨ (a = 58 ∧ j = 9) ∨ ((47 ≤ a ∧ a ≤ 50)) ∨ ((53 ≤ a ∧ a ≤ 54)) ∨ ((56 ≤ a ∧ a ≤ 57)) ∨ ((59 ≤ a ∧ a ≤ 67))
theorem fr_X11_refreshFlow {N : Nat}  {σ : Sto} {res : Sto} (hF : F_X11_refreshFlow N  σ = some res) : Fr (Wr_X11_refreshFlow) σ res := by
  unfold F_X11_refreshFlow at hF
  obtain ⟨q1, eq1, hF⟩ := bind_some' hF
  by_cases c2 : (q1.1 0 17) = 0
  · have hF := (if_pos c2).symm.trans hF
    obtain ⟨b3, eb3, kb3, hF⟩ := asB_some hF
    obtain ⟨q4, eq4, hF⟩ := bind_some' hF
    obtain ⟨q5, eq5, hF⟩ := bind_some' hF
    obtain rfl := Option.some.inj hF
    exact (Fr_up (Fr_tr (Fr_tr (Fr_tr Fr.rf (Fr_mono (fr_X11_refreshNet (res := q1) eq1) (fun a j h => by
      unfold Wr_X11_refreshNet at h
      unfold Wr_X11_refreshFlow
      rcases h with h | h | h | h | h | h
      · exact (Or.inr (Or.inr (Or.inr (Or.inr (Or.inl (by omega))))))
      · exact (Or.inr (Or.inr (Or.inr (Or.inr (Or.inr (Or.inr (Or.inl (by omega))))))))
      · exact (Or.inr (Or.inr (Or.inr (Or.inr (Or.inr (Or.inr (Or.inr (Or.inl (by omega)))))))))
      · exact (Or.inr (Or.inr (Or.inr (Or.inr (Or.inr (Or.inr (Or.inr (Or.inr (Or.inr (Or.inl (by omega)))))))))))
      · exact (Or.inr (Or.inr (Or.inr (Or.inr (Or.inr (Or.inr (Or.inr (Or.inr (Or.inr (Or.inr (Or.inl (by omega))))))))))))
      · exact (Or.inr (Or.inr (Or.inr (Or.inr (Or.inr (Or.inr (Or.inr (Or.inr (Or.inr (Or.inr (Or.inr (Or.inl (by omega)))))))))))))))) (Fr_mono (fr_X1_load (res := q4) eq4) (fun a j h => by
      unfold Wr_X1_load at h
      unfold Wr_X11_refreshFlow
      rcases h with h | h
      · exact (Or.inr (Or.inl (by omega)))
      · exact (Or.inr (Or.inr (Or.inr (Or.inr (Or.inr (Or.inr (Or.inr (Or.inr (Or.inr (Or.inr (Or.inr (Or.inr (by omega)))))))))))))))) (Fr_mono (fr_X1_run (res := q5) eq5) (fun a j h => by
      unfold Wr_X1_run at h
      unfold Wr_X11_refreshFlow
      rcases h with h | h | h | h | h | h
      · exact (Or.inl (by omega))
      · exact (Or.inr (Or.inr (Or.inl (by omega))))
      · exact (Or.inr (Or.inr (Or.inr (Or.inl (by omega)))))
      · exact (Or.inr (Or.inr (Or.inr (Or.inr (Or.inr (Or.inr (Or.inr (Or.inr (Or.inl (by omega))))))))))
      · exact (Or.inr (Or.inr (Or.inr (Or.inr (Or.inr (Or.inr (Or.inr (Or.inr (Or.inr (Or.inr (Or.inr (Or.inr (by omega)))))))))))))
      · exact (Or.inr (Or.inr (Or.inr (Or.inr (Or.inr (Or.inr (Or.inr (Or.inr (Or.inr (Or.inr (Or.inr (Or.inr (by omega)))))))))))))))) (show Wr_X11_refreshFlow _ _ from (Or.inr (Or.inr (Or.inr (Or.inr (Or.inr (Or.inl (by omega)))))))))
  · have hF := (if_neg c2).symm.trans hF
    obtain rfl := Option.some.inj hF
    exact (Fr_tr Fr.rf (Fr_mono (fr_X11_refreshNet (res := q1) eq1) (fun a j h => by
      unfold Wr_X11_refreshNet at h
      unfold Wr_X11_refreshFlow
      rcases h with h | h | h | h | h | h
      · exact (Or.inr (Or.inr (Or.inr (Or.inr (Or.inl (by omega))))))
      · exact (Or.inr (Or.inr (Or.inr (Or.inr (Or.inr (Or.inr (Or.inl (by omega))))))))
      · exact (Or.inr (Or.inr (Or.inr (Or.inr (Or.inr (Or.inr (Or.inr (Or.inl (by omega)))))))))
      · exact (Or.inr (Or.inr (Or.inr (Or.inr (Or.inr (Or.inr (Or.inr (Or.inr (Or.inr (Or.inl (by omega)))))))))))
      · exact (Or.inr (Or.inr (Or.inr (Or.inr (Or.inr (Or.inr (Or.inr (Or.inr (Or.inr (Or.inr (Or.inl (by omega))))))))))))
      · exact (Or.inr (Or.inr (Or.inr (Or.inr (Or.inr (Or.inr (Or.inr (Or.inr (Or.inr (Or.inr (Or.inr (Or.inl (by omega))))))))))))))))
def Wr_X11_claimAll (a : Nat) (j : Int) : Prop := (a = 33 ∧ j = 1) ∨ (a = 58 ∧ j = 10) ∨ (a = 58 ∧ j = 11) ∨ (a = 58 ∧ j = 12) ∨ (a = 58 ∧ j = 13) ∨ (a = 0 ∧ j = 16) ∨ (a = 0 ∧ j = 17) ∨ (a = 52 ∧ j = 2) ∨ (a = 29 ∧ j = 3) ∨ (a = 46 ∧ j = 5) ∨ (a = 58 ∧ j = 9) ∨ ((30 ≤ a ∧ a ≤ 32)) ∨ (a = 34) ∨ ((47 ≤ a ∧ a ≤ 50)) ∨ ((53 ≤ a ∧ a ≤ 54)) ∨ ((56 ≤ a ∧ a ≤ 57)) ∨ ((59 ≤ a ∧ a ≤ 67))
theorem fr_X11_claimAll_J98 {N : Nat}   {v1 : Int} {σ : Sto} {res : Int × Sto} (hF : F_X11_claimAll_J98 N  v1 σ = some res) : Fr (Wr_X11_claimAll) σ res.2 := by
  unfold F_X11_claimAll_J98 at hF
  by_cases c2 : v1 ≤ 0
  · have hF := (if_pos c2).symm.trans hF
    obtain rfl := Option.some.inj hF
    exact Fr.rf
  · have hF := (if_neg c2).symm.trans hF
    obtain ⟨q3, eq3, hF⟩ := bind_some' hF
    obtain rfl := Option.some.inj hF
    exact (Fr_up (Fr_tr Fr.rf (Fr_mono (fr_X2_push (res := q3) eq3) (fun a j h => by
      unfold Wr_X2_push at h
      unfold Wr_X11_claimAll
      rcases h with h | h
      · exact (Or.inl (by omega))
      · exact (Or.inr (Or.inr (Or.inr (Or.inr (Or.inr (Or.inr (Or.inr (Or.inr (Or.inr (Or.inr (Or.inr (Or.inr (Or.inl (by omega))))))))))))))))) (show Wr_X11_claimAll _ _ from (Or.inr (Or.inr (Or.inr (Or.inr (Or.inr (Or.inr (Or.inl (by omega))))))))))
theorem fr_X11_claimAll_J92 {N : Nat}  {nx8 : (Int × Int × Sto) → Option (Int × Sto)} {v1 : Int} {v2 : Int} {σ : Sto} {res : Int × Sto} (hnx8 : ∀ q, nx8 q = some res → Fr (Wr_X11_claimAll) q.2.2 res.2) (hF : F_X11_claimAll_J92 N nx8 v1 v2 σ = some res) : Fr (Wr_X11_claimAll) σ res.2 := by
  unfold F_X11_claimAll_J92 at hF
  exact Fr_tr Fr.rf (hnx8 (v1, (ja v2 1), σ) hF)
theorem fr_X11_claimAll_J86 {N : Nat}  {nx8 : (Int × Int × Sto) → Option (Int × Sto)} {nx21 : (Int × Int × Sto) → Option (Int × Sto)} {v1 : Int} {v2 : Int} {v3 : Int} {σ : Sto} {res : Int × Sto} (hnx8 : ∀ q, nx8 q = some res → Fr (Wr_X11_claimAll) q.2.2 res.2) (hnx21 : ∀ q, nx21 q = some res → Fr (Wr_X11_claimAll) q.2.2 res.2) (hF : F_X11_claimAll_J86 N nx8 nx21 v1 v2 v3 σ = some res) : Fr (Wr_X11_claimAll) σ res.2 := by
  unfold F_X11_claimAll_J86 at hF
  exact Fr_tr Fr.rf (hnx21 (v1, (ja v3 1), σ) hF)
theorem fr_X11_claimAll_B21 {N : Nat}  {nx8 : (Int × Int × Sto) → Option (Int × Sto)} {nx21 : (Int × Int × Sto) → Option (Int × Sto)} {v2 : Int} {v1 : Int} {v3 : Int} {σ : Sto} {res : Int × Sto} (hnx8 : ∀ q, nx8 q = some res → Fr (Wr_X11_claimAll) q.2.2 res.2) (hnx21 : ∀ q, nx21 q = some res → Fr (Wr_X11_claimAll) q.2.2 res.2) (hF : F_X11_claimAll_B21 N nx8 nx21 v2 v1 v3 σ = some res) : Fr (Wr_X11_claimAll) σ res.2 := by
  unfold F_X11_claimAll_B21 at hF
  obtain ⟨b6, eb6, kb6, hF⟩ := asB_some hF
  by_cases c7 : (σ.1 b6 9) ≤ v3
  · have hF := (if_pos c7).symm.trans hF
    exact fr_X11_claimAll_J92 hnx8 hF
  · have hF := (if_neg c7).symm.trans hF
    obtain ⟨b8, hF⟩ := inb_some hF
    by_cases c9 : (σ.1 63 (ja (jm v2 12) v3)) ≤ 0
    · have hF := (if_pos c9).symm.trans hF
      exact fr_X11_claimAll_J86 hnx8 hnx21 hF
    · have hF := (if_neg c9).symm.trans hF
      by_cases c10 : 30 ≤ (σ.1 29 3)
      · have hF := (if_pos c10).symm.trans hF
        exact fr_X11_claimAll_J86 hnx8 hnx21 hF
      · have hF := (if_neg c10).symm.trans hF
        obtain ⟨q11, eq11, hF⟩ := bind_some' hF
        exact Fr_tr (Fr_tr Fr.rf (Fr_mono (fr_X5_insert (res := q11) eq11) (fun a j h => by
      unfold Wr_X5_insert at h
      unfold Wr_X11_claimAll
      rcases h with h | h
      · exact (Or.inr (Or.inr (Or.inr (Or.inr (Or.inr (Or.inr (Or.inr (Or.inr (Or.inl (by omega))))))))))
      · exact (Or.inr (Or.inr (Or.inr (Or.inr (Or.inr (Or.inr (Or.inr (Or.inr (Or.inr (Or.inr (Or.inr (Or.inl (by omega)))))))))))))))) (fr_X11_claimAll_J86 hnx8 hnx21 hF)
theorem fr_X11_claimAll_B8 {N : Nat}  {nx8 : (Int × Int × Sto) → Option (Int × Sto)} {v1 : Int} {v2 : Int} {σ : Sto} {res : Int × Sto} (hnx8 : ∀ q, nx8 q = some res → Fr (Wr_X11_claimAll) q.2.2 res.2) (hF : F_X11_claimAll_B8 N nx8 v1 v2 σ = some res) : Fr (Wr_X11_claimAll) σ res.2 := by
  unfold F_X11_claimAll_B8 at hF
  obtain ⟨b4, eb4, kb4, hF⟩ := asB_some hF
  by_cases c5 : (σ.1 b4 9) ≤ v2
  · have hF := (if_pos c5).symm.trans hF
    exact fr_X11_claimAll_J98  hF
  · have hF := (if_neg c5).symm.trans hF
    exact (loopK_ind (res := res) (P := fun (q : Int × Int × Sto) => Fr (Wr_X11_claimAll) q.2.2 res.2) (fun nx q hn hF => fr_X11_claimAll_B21 hnx8 hn hF) N (v1, 0, σ) hF)
theorem fr_X11_claimAll {N : Nat}  {σ : Sto} {res : Int × Sto} (hF : F_X11_claimAll N  σ = some res) : Fr (Wr_X11_claimAll) σ res.2 := by
  unfold F_X11_claimAll at hF
  obtain ⟨q1, eq1, hF⟩ := bind_some' hF
  exact Fr_tr (Fr_tr Fr.rf (Fr_mono (fr_X11_refreshFlow (res := q1) eq1) (fun a j h => by
      unfold Wr_X11_refreshFlow at h
      unfold Wr_X11_claimAll
      rcases h with h | h | h | h | h | h | h | h | h | h | h | h | h
      · exact (Or.inr (Or.inl (by omega)))
      · exact (Or.inr (Or.inr (Or.inl (by omega))))
      · exact (Or.inr (Or.inr (Or.inr (Or.inl (by omega)))))
      · exact (Or.inr (Or.inr (Or.inr (Or.inr (Or.inl (by omega))))))
      · exact (Or.inr (Or.inr (Or.inr (Or.inr (Or.inr (Or.inl (by omega)))))))
      · exact (Or.inr (Or.inr (Or.inr (Or.inr (Or.inr (Or.inr (Or.inl (by omega))))))))
      · exact (Or.inr (Or.inr (Or.inr (Or.inr (Or.inr (Or.inr (Or.inr (Or.inl (by omega)))))))))
      · exact (Or.inr (Or.inr (Or.inr (Or.inr (Or.inr (Or.inr (Or.inr (Or.inr (Or.inr (Or.inl (by omega)))))))))))
      · exact (Or.inr (Or.inr (Or.inr (Or.inr (Or.inr (Or.inr (Or.inr (Or.inr (Or.inr (Or.inr (Or.inl (by omega))))))))))))
      · exact (Or.inr (Or.inr (Or.inr (Or.inr (Or.inr (Or.inr (Or.inr (Or.inr (Or.inr (Or.inr (Or.inr (Or.inr (Or.inr (Or.inl (by omega)))))))))))))))
      · exact (Or.inr (Or.inr (Or.inr (Or.inr (Or.inr (Or.inr (Or.inr (Or.inr (Or.inr (Or.inr (Or.inr (Or.inr (Or.inr (Or.inr (Or.inl (by omega))))))))))))))))
      · exact (Or.inr (Or.inr (Or.inr (Or.inr (Or.inr (Or.inr (Or.inr (Or.inr (Or.inr (Or.inr (Or.inr (Or.inr (Or.inr (Or.inr (Or.inr (Or.inl (by omega)))))))))))))))))
      · exact (Or.inr (Or.inr (Or.inr (Or.inr (Or.inr (Or.inr (Or.inr (Or.inr (Or.inr (Or.inr (Or.inr (Or.inr (Or.inr (Or.inr (Or.inr (Or.inr (by omega)))))))))))))))))))) (loopK_ind (res := res) (P := fun (q : Int × Int × Sto) => Fr (Wr_X11_claimAll) q.2.2 res.2) (fun nx q hn hF => fr_X11_claimAll_B8 hn hF) N (0, 0, q1) hF)
def Wr_X11_result (a : Nat) (j : Int) : Prop := (a = 33 ∧ j = 1) ∨ (a = 0 ∧ j = 16) ∨ (a = 0 ∧ j = 17) ∨ (a = 10) ∨ (a = 23) ∨ (a = 34)
theorem fr_X11_result {N : Nat} {v1 : Int} {v2 : Int} {σ : Sto} {res : Int × Sto} (hF : F_X11_result N v1 v2 σ = some res) : Fr (Wr_X11_result) σ res.2 := by
  unfold F_X11_result at hF
  obtain ⟨b1, eb1, kb1, hF⟩ := asB_some hF
  obtain ⟨q2, eq2, hF⟩ := bind_some' hF
  by_cases c3 : q2 = 0
  · have hF := (if_pos c3).symm.trans hF
    obtain rfl := Option.some.inj hF
    exact Fr.rf
  · have hF := (if_neg c3).symm.trans hF
    by_cases c4 : v2 < (-99999)
    · have hF := (if_pos c4).symm.trans hF
      obtain rfl := Option.some.inj hF
      exact Fr.rf
    · have hF := (if_neg c4).symm.trans hF
      by_cases c5 : 99999 < v2
      · have hF := (if_pos c5).symm.trans hF
        obtain rfl := Option.some.inj hF
        exact Fr.rf
      · have hF := (if_neg c5).symm.trans hF
        obtain ⟨q6, eq6, hF⟩ := bind_some' hF
        by_cases c7 : q6 = 0
        · have hF := (if_pos c7).symm.trans hF
          obtain ⟨b8, eb8, kb8, hF⟩ := asB_some hF
          obtain ⟨b9, hF⟩ := inb_some hF
          obtain ⟨q10, eq10, hF⟩ := bind_some' hF
          obtain ⟨b11, eb11, kb11, hF⟩ := asB_some hF
          obtain ⟨q12, eq12, hF⟩ := bind_some' hF
          obtain rfl := Option.some.inj hF
          exact (Fr_tr (Fr_up (Fr_tr Fr.rf (Fr_mono (fr_X2_push (res := q10) eq10) (fun a j h => by
      unfold Wr_X2_push at h
      unfold Wr_X11_result
      rcases h with h | h
      · exact (Or.inl (by omega))
      · exact (Or.inr (Or.inr (Or.inr (Or.inr (Or.inr (by omega))))))))) (by rcases bookc kb11 with hbk | hbk <;> first | exact (Or.inr (Or.inr (Or.inr (Or.inl (by omega))))) | exact (Or.inr (Or.inr (Or.inr (Or.inr (Or.inl (by omega)))))))) (Fr_mono (fr_X11_forgetNet (res := q12) eq12) (fun a j h => by
      unfold Wr_X11_forgetNet at h
      unfold Wr_X11_result
      rcases h with h | h
      · exact (Or.inr (Or.inl (by omega)))
      · exact (Or.inr (Or.inr (Or.inl (by omega)))))))
        · have hF := (if_neg c7).symm.trans hF
          obtain rfl := Option.some.inj hF
          exact Fr.rf
def Wr_X11_relief (a : Nat) (j : Int) : Prop := (a = 58 ∧ j = 10) ∨ (a = 58 ∧ j = 11) ∨ (a = 58 ∧ j = 12) ∨ (a = 58 ∧ j = 13) ∨ (a = 0 ∧ j = 16) ∨ (a = 0 ∧ j = 17) ∨ (a = 52 ∧ j = 2) ∨ (a = 46 ∧ j = 5) ∨ (a = 58 ∧ j = 9) ∨ ((47 ≤ a ∧ a ≤ 50)) ∨ ((53 ≤ a ∧ a ≤ 54)) ∨ ((56 ≤ a ∧ a ≤ 57)) ∨ ((59 ≤ a ∧ a ≤ 67))
theorem fr_X11_relief {N : Nat} {v1 : Int} {v2 : Int} {σ : Sto} {res : Int × Sto} (hF : F_X11_relief N v1 v2 σ = some res) : Fr (Wr_X11_relief) σ res.2 := by
  unfold F_X11_relief at hF
  obtain ⟨q1, eq1, hF⟩ := bind_some' hF
  by_cases c2 : q1.1 = 0
  · have hF := (if_pos c2).symm.trans hF
    obtain rfl := Option.some.inj hF
    exact (Fr_tr Fr.rf (Fr_mono (fr_X11_isLink (res := q1) eq1) (fun a j h => by
      unfold Wr_X11_isLink at h
      unfold Wr_X11_relief
      rcases h with h | h | h | h | h | h
      · exact (Or.inr (Or.inr (Or.inr (Or.inr (Or.inl (by omega))))))
      · exact (Or.inr (Or.inr (Or.inr (Or.inr (Or.inr (Or.inr (Or.inl (by omega))))))))
      · exact (Or.inr (Or.inr (Or.inr (Or.inr (Or.inr (Or.inr (Or.inr (Or.inl (by omega)))))))))
      · exact (Or.inr (Or.inr (Or.inr (Or.inr (Or.inr (Or.inr (Or.inr (Or.inr (Or.inr (Or.inl (by omega)))))))))))
      · exact (Or.inr (Or.inr (Or.inr (Or.inr (Or.inr (Or.inr (Or.inr (Or.inr (Or.inr (Or.inr (Or.inl (by omega))))))))))))
      · exact (Or.inr (Or.inr (Or.inr (Or.inr (Or.inr (Or.inr (Or.inr (Or.inr (Or.inr (Or.inr (Or.inr (Or.inl (by omega))))))))))))))))
  · have hF := (if_neg c2).symm.trans hF
    obtain ⟨q3, eq3, hF⟩ := bind_some' hF
    obtain ⟨b4, hF⟩ := inb_some hF
    obtain rfl := Option.some.inj hF
    exact (Fr_tr (Fr_tr Fr.rf (Fr_mono (fr_X11_isLink (res := q1) eq1) (fun a j h => by
      unfold Wr_X11_isLink at h
      unfold Wr_X11_relief
      rcases h with h | h | h | h | h | h
      · exact (Or.inr (Or.inr (Or.inr (Or.inr (Or.inl (by omega))))))
      · exact (Or.inr (Or.inr (Or.inr (Or.inr (Or.inr (Or.inr (Or.inl (by omega))))))))
      · exact (Or.inr (Or.inr (Or.inr (Or.inr (Or.inr (Or.inr (Or.inr (Or.inl (by omega)))))))))
      · exact (Or.inr (Or.inr (Or.inr (Or.inr (Or.inr (Or.inr (Or.inr (Or.inr (Or.inr (Or.inl (by omega)))))))))))
      · exact (Or.inr (Or.inr (Or.inr (Or.inr (Or.inr (Or.inr (Or.inr (Or.inr (Or.inr (Or.inr (Or.inl (by omega))))))))))))
      · exact (Or.inr (Or.inr (Or.inr (Or.inr (Or.inr (Or.inr (Or.inr (Or.inr (Or.inr (Or.inr (Or.inr (Or.inl (by omega)))))))))))))))) (Fr_mono (fr_X11_refreshFlow (res := q3) eq3) (fun a j h => by
      unfold Wr_X11_refreshFlow at h
      unfold Wr_X11_relief
      rcases h with h | h | h | h | h | h | h | h | h | h | h | h | h
      · exact (Or.inl (by omega))
      · exact (Or.inr (Or.inl (by omega)))
      · exact (Or.inr (Or.inr (Or.inl (by omega))))
      · exact (Or.inr (Or.inr (Or.inr (Or.inl (by omega)))))
      · exact (Or.inr (Or.inr (Or.inr (Or.inr (Or.inl (by omega))))))
      · exact (Or.inr (Or.inr (Or.inr (Or.inr (Or.inr (Or.inl (by omega)))))))
      · exact (Or.inr (Or.inr (Or.inr (Or.inr (Or.inr (Or.inr (Or.inl (by omega))))))))
      · exact (Or.inr (Or.inr (Or.inr (Or.inr (Or.inr (Or.inr (Or.inr (Or.inl (by omega)))))))))
      · exact (Or.inr (Or.inr (Or.inr (Or.inr (Or.inr (Or.inr (Or.inr (Or.inr (Or.inl (by omega))))))))))
      · exact (Or.inr (Or.inr (Or.inr (Or.inr (Or.inr (Or.inr (Or.inr (Or.inr (Or.inr (Or.inl (by omega)))))))))))
      · exact (Or.inr (Or.inr (Or.inr (Or.inr (Or.inr (Or.inr (Or.inr (Or.inr (Or.inr (Or.inr (Or.inl (by omega))))))))))))
      · exact (Or.inr (Or.inr (Or.inr (Or.inr (Or.inr (Or.inr (Or.inr (Or.inr (Or.inr (Or.inr (Or.inr (Or.inl (by omega)))))))))))))
      · exact (Or.inr (Or.inr (Or.inr (Or.inr (Or.inr (Or.inr (Or.inr (Or.inr (Or.inr (Or.inr (Or.inr (Or.inr (by omega))))))))))))))))
def Wr_X11_solved (a : Nat) (j : Int) : Prop := (a = 58 ∧ j = 10) ∨ (a = 58 ∧ j = 11) ∨ (a = 58 ∧ j = 12) ∨ (a = 58 ∧ j = 13) ∨ (a = 0 ∧ j = 16) ∨ (a = 0 ∧ j = 17) ∨ (a = 52 ∧ j = 2) ∨ (a = 46 ∧ j = 5) ∨ (a = 58 ∧ j = 9) ∨ ((47 ≤ a ∧ a ≤ 50)) ∨ ((53 ≤ a ∧ a ≤ 54)) ∨ ((56 ≤ a ∧ a ≤ 57)) ∨ ((59 ≤ a ∧ a ≤ 67))
theorem fr_X11_solved {N : Nat} {v1 : Int} {σ : Sto} {res : Int × Sto} (hF : F_X11_solved N v1 σ = some res) : Fr (Wr_X11_solved) σ res.2 := by
  unfold F_X11_solved at hF
  by_cases c1 : v1 < 0
  · have hF := (if_pos c1).symm.trans hF
    obtain rfl := Option.some.inj hF
    exact Fr.rf
  · have hF := (if_neg c1).symm.trans hF
    by_cases c2 : v1 ≤ 3
    · have hF := (if_pos c2).symm.trans hF
      obtain ⟨q3, eq3, hF⟩ := bind_some' hF
      by_cases c4 : v1 = 0
      · have hF := (if_pos c4).symm.trans hF
        obtain rfl := Option.some.inj hF
        exact (Fr_tr Fr.rf (Fr_mono (fr_X11_refreshFlow (res := q3) eq3) (fun a j h => by
      unfold Wr_X11_refreshFlow at h
      unfold Wr_X11_solved
      rcases h with h | h | h | h | h | h | h | h | h | h | h | h | h
      · exact (Or.inl (by omega))
      · exact (Or.inr (Or.inl (by omega)))
      · exact (Or.inr (Or.inr (Or.inl (by omega))))
      · exact (Or.inr (Or.inr (Or.inr (Or.inl (by omega)))))
      · exact (Or.inr (Or.inr (Or.inr (Or.inr (Or.inl (by omega))))))
      · exact (Or.inr (Or.inr (Or.inr (Or.inr (Or.inr (Or.inl (by omega)))))))
      · exact (Or.inr (Or.inr (Or.inr (Or.inr (Or.inr (Or.inr (Or.inl (by omega))))))))
      · exact (Or.inr (Or.inr (Or.inr (Or.inr (Or.inr (Or.inr (Or.inr (Or.inl (by omega)))))))))
      · exact (Or.inr (Or.inr (Or.inr (Or.inr (Or.inr (Or.inr (Or.inr (Or.inr (Or.inl (by omega))))))))))
      · exact (Or.inr (Or.inr (Or.inr (Or.inr (Or.inr (Or.inr (Or.inr (Or.inr (Or.inr (Or.inl (by omega)))))))))))
      · exact (Or.inr (Or.inr (Or.inr (Or.inr (Or.inr (Or.inr (Or.inr (Or.inr (Or.inr (Or.inr (Or.inl (by omega))))))))))))
      · exact (Or.inr (Or.inr (Or.inr (Or.inr (Or.inr (Or.inr (Or.inr (Or.inr (Or.inr (Or.inr (Or.inr (Or.inl (by omega)))))))))))))
      · exact (Or.inr (Or.inr (Or.inr (Or.inr (Or.inr (Or.inr (Or.inr (Or.inr (Or.inr (Or.inr (Or.inr (Or.inr (by omega))))))))))))))))
      · have hF := (if_neg c4).symm.trans hF
        by_cases c5 : v1 = 1
        · have hF := (if_pos c5).symm.trans hF
          obtain ⟨q6, eq6, hF⟩ := bind_some' hF
          obtain rfl := Option.some.inj hF
          exact (Fr_tr Fr.rf (Fr_mono (fr_X11_refreshFlow (res := q3) eq3) (fun a j h => by
      unfold Wr_X11_refreshFlow at h
      unfold Wr_X11_solved
      rcases h with h | h | h | h | h | h | h | h | h | h | h | h | h
      · exact (Or.inl (by omega))
      · exact (Or.inr (Or.inl (by omega)))
      · exact (Or.inr (Or.inr (Or.inl (by omega))))
      · exact (Or.inr (Or.inr (Or.inr (Or.inl (by omega)))))
      · exact (Or.inr (Or.inr (Or.inr (Or.inr (Or.inl (by omega))))))
      · exact (Or.inr (Or.inr (Or.inr (Or.inr (Or.inr (Or.inl (by omega)))))))
      · exact (Or.inr (Or.inr (Or.inr (Or.inr (Or.inr (Or.inr (Or.inl (by omega))))))))
      · exact (Or.inr (Or.inr (Or.inr (Or.inr (Or.inr (Or.inr (Or.inr (Or.inl (by omega)))))))))
      · exact (Or.inr (Or.inr (Or.inr (Or.inr (Or.inr (Or.inr (Or.inr (Or.inr (Or.inl (by omega))))))))))
      · exact (Or.inr (Or.inr (Or.inr (Or.inr (Or.inr (Or.inr (Or.inr (Or.inr (Or.inr (Or.inl (by omega)))))))))))
      · exact (Or.inr (Or.inr (Or.inr (Or.inr (Or.inr (Or.inr (Or.inr (Or.inr (Or.inr (Or.inr (Or.inl (by omega))))))))))))
      · exact (Or.inr (Or.inr (Or.inr (Or.inr (Or.inr (Or.inr (Or.inr (Or.inr (Or.inr (Or.inr (Or.inr (Or.inl (by omega)))))))))))))
      · exact (Or.inr (Or.inr (Or.inr (Or.inr (Or.inr (Or.inr (Or.inr (Or.inr (Or.inr (Or.inr (Or.inr (Or.inr (by omega))))))))))))))))
        · have hF := (if_neg c5).symm.trans hF
          by_cases c7 : v1 = 2
          · have hF := (if_pos c7).symm.trans hF
            obtain rfl := Option.some.inj hF
            exact (Fr_tr Fr.rf (Fr_mono (fr_X11_refreshFlow (res := q3) eq3) (fun a j h => by
      unfold Wr_X11_refreshFlow at h
      unfold Wr_X11_solved
      rcases h with h | h | h | h | h | h | h | h | h | h | h | h | h
      · exact (Or.inl (by omega))
      · exact (Or.inr (Or.inl (by omega)))
      · exact (Or.inr (Or.inr (Or.inl (by omega))))
      · exact (Or.inr (Or.inr (Or.inr (Or.inl (by omega)))))
      · exact (Or.inr (Or.inr (Or.inr (Or.inr (Or.inl (by omega))))))
      · exact (Or.inr (Or.inr (Or.inr (Or.inr (Or.inr (Or.inl (by omega)))))))
      · exact (Or.inr (Or.inr (Or.inr (Or.inr (Or.inr (Or.inr (Or.inl (by omega))))))))
      · exact (Or.inr (Or.inr (Or.inr (Or.inr (Or.inr (Or.inr (Or.inr (Or.inl (by omega)))))))))
      · exact (Or.inr (Or.inr (Or.inr (Or.inr (Or.inr (Or.inr (Or.inr (Or.inr (Or.inl (by omega))))))))))
      · exact (Or.inr (Or.inr (Or.inr (Or.inr (Or.inr (Or.inr (Or.inr (Or.inr (Or.inr (Or.inl (by omega)))))))))))
      · exact (Or.inr (Or.inr (Or.inr (Or.inr (Or.inr (Or.inr (Or.inr (Or.inr (Or.inr (Or.inr (Or.inl (by omega))))))))))))
      · exact (Or.inr (Or.inr (Or.inr (Or.inr (Or.inr (Or.inr (Or.inr (Or.inr (Or.inr (Or.inr (Or.inr (Or.inl (by omega)))))))))))))
      · exact (Or.inr (Or.inr (Or.inr (Or.inr (Or.inr (Or.inr (Or.inr (Or.inr (Or.inr (Or.inr (Or.inr (Or.inr (by omega))))))))))))))))
          · have hF := (if_neg c7).symm.trans hF
            obtain ⟨q8, eq8, hF⟩ := bind_some' hF
            obtain rfl := Option.some.inj hF
            exact (Fr_tr Fr.rf (Fr_mono (fr_X11_refreshFlow (res := q3) eq3) (fun a j h => by
      unfold Wr_X11_refreshFlow at h
      unfold Wr_X11_solved
      rcases h with h | h | h | h | h | h | h | h | h | h | h | h | h
      · exact (Or.inl (by omega))
      · exact (Or.inr (Or.inl (by omega)))
      · exact (Or.inr (Or.inr (Or.inl (by omega))))
      · exact (Or.inr (Or.inr (Or.inr (Or.inl (by omega)))))
      · exact (Or.inr (Or.inr (Or.inr (Or.inr (Or.inl (by omega))))))
      · exact (Or.inr (Or.inr (Or.inr (Or.inr (Or.inr (Or.inl (by omega)))))))
      · exact (Or.inr (Or.inr (Or.inr (Or.inr (Or.inr (Or.inr (Or.inl (by omega))))))))
      · exact (Or.inr (Or.inr (Or.inr (Or.inr (Or.inr (Or.inr (Or.inr (Or.inl (by omega)))))))))
      · exact (Or.inr (Or.inr (Or.inr (Or.inr (Or.inr (Or.inr (Or.inr (Or.inr (Or.inl (by omega))))))))))
      · exact (Or.inr (Or.inr (Or.inr (Or.inr (Or.inr (Or.inr (Or.inr (Or.inr (Or.inr (Or.inl (by omega)))))))))))
      · exact (Or.inr (Or.inr (Or.inr (Or.inr (Or.inr (Or.inr (Or.inr (Or.inr (Or.inr (Or.inr (Or.inl (by omega))))))))))))
      · exact (Or.inr (Or.inr (Or.inr (Or.inr (Or.inr (Or.inr (Or.inr (Or.inr (Or.inr (Or.inr (Or.inr (Or.inl (by omega)))))))))))))
      · exact (Or.inr (Or.inr (Or.inr (Or.inr (Or.inr (Or.inr (Or.inr (Or.inr (Or.inr (Or.inr (Or.inr (Or.inr (by omega))))))))))))))))
    · have hF := (if_neg c2).symm.trans hF
      obtain rfl := Option.some.inj hF
      exact Fr.rf
def Wr_X11_reached (a : Nat) (j : Int) : Prop := (a = 58 ∧ j = 10) ∨ (a = 58 ∧ j = 11) ∨ (a = 58 ∧ j = 12) ∨ (a = 58 ∧ j = 13) ∨ (a = 0 ∧ j = 16) ∨ (a = 0 ∧ j = 17) ∨ (a = 52 ∧ j = 2) ∨ (a = 46 ∧ j = 5) ∨ (a = 58 ∧ j = 9) ∨ ((47 ≤ a ∧ a ≤ 50)) ∨ ((53 ≤ a ∧ a ≤ 54)) ∨ ((56 ≤ a ∧ a ≤ 57)) ∨ ((59 ≤ a ∧ a ≤ 67))
theorem fr_X11_reached {N : Nat}  {σ : Sto} {res : Int × Sto} (hF : F_X11_reached N  σ = some res) : Fr (Wr_X11_reached) σ res.2 := by
  unfold F_X11_reached at hF
  obtain ⟨q1, eq1, hF⟩ := bind_some' hF
  obtain ⟨q2, eq2, hF⟩ := bind_some' hF
  obtain rfl := Option.some.inj hF
  exact (Fr_tr Fr.rf (Fr_mono (fr_X11_refreshFlow (res := q1) eq1) (fun a j h => by
      unfold Wr_X11_refreshFlow at h
      unfold Wr_X11_reached
      rcases h with h | h | h | h | h | h | h | h | h | h | h | h | h
      · exact (Or.inl (by omega))
      · exact (Or.inr (Or.inl (by omega)))
      · exact (Or.inr (Or.inr (Or.inl (by omega))))
      · exact (Or.inr (Or.inr (Or.inr (Or.inl (by omega)))))
      · exact (Or.inr (Or.inr (Or.inr (Or.inr (Or.inl (by omega))))))
      · exact (Or.inr (Or.inr (Or.inr (Or.inr (Or.inr (Or.inl (by omega)))))))
      · exact (Or.inr (Or.inr (Or.inr (Or.inr (Or.inr (Or.inr (Or.inl (by omega))))))))
      · exact (Or.inr (Or.inr (Or.inr (Or.inr (Or.inr (Or.inr (Or.inr (Or.inl (by omega)))))))))
      · exact (Or.inr (Or.inr (Or.inr (Or.inr (Or.inr (Or.inr (Or.inr (Or.inr (Or.inl (by omega))))))))))
      · exact (Or.inr (Or.inr (Or.inr (Or.inr (Or.inr (Or.inr (Or.inr (Or.inr (Or.inr (Or.inl (by omega)))))))))))
      · exact (Or.inr (Or.inr (Or.inr (Or.inr (Or.inr (Or.inr (Or.inr (Or.inr (Or.inr (Or.inr (Or.inl (by omega))))))))))))
      · exact (Or.inr (Or.inr (Or.inr (Or.inr (Or.inr (Or.inr (Or.inr (Or.inr (Or.inr (Or.inr (Or.inr (Or.inl (by omega)))))))))))))
      · exact (Or.inr (Or.inr (Or.inr (Or.inr (Or.inr (Or.inr (Or.inr (Or.inr (Or.inr (Or.inr (Or.inr (Or.inr (by omega))))))))))))))))
def Wr_X11_left (a : Nat) (j : Int) : Prop := (a = 58 ∧ j = 10) ∨ (a = 58 ∧ j = 11) ∨ (a = 58 ∧ j = 12) ∨ (a = 58 ∧ j = 13) ∨ (a = 0 ∧ j = 16) ∨ (a = 0 ∧ j = 17) ∨ (a = 52 ∧ j = 2) ∨ (a = 46 ∧ j = 5) ∨ (a = 58 ∧ j = 9) ∨ ((47 ≤ a ∧ a ≤ 50)) ∨ ((53 ≤ a ∧ a ≤ 54)) ∨ ((56 ≤ a ∧ a ≤ 57)) ∨ ((59 ≤ a ∧ a ≤ 67))
theorem fr_X11_left {N : Nat} {v1 : Int} {σ : Sto} {res : Int × Sto} (hF : F_X11_left N v1 σ = some res) : Fr (Wr_X11_left) σ res.2 := by
  unfold F_X11_left at hF
  obtain ⟨b1, eb1, kb1, hF⟩ := asB_some hF
  obtain ⟨q2, eq2, hF⟩ := bind_some' hF
  by_cases c3 : q2 = 0
  · have hF := (if_pos c3).symm.trans hF
    obtain rfl := Option.some.inj hF
    exact Fr.rf
  · have hF := (if_neg c3).symm.trans hF
    obtain ⟨q4, eq4, hF⟩ := bind_some' hF
    obtain ⟨b5, hF⟩ := inb_some hF
    obtain rfl := Option.some.inj hF
    exact (Fr_tr Fr.rf (Fr_mono (fr_X11_refreshFlow (res := q4) eq4) (fun a j h => by
      unfold Wr_X11_refreshFlow at h
      unfold Wr_X11_left
      rcases h with h | h | h | h | h | h | h | h | h | h | h | h | h
      · exact (Or.inl (by omega))
      · exact (Or.inr (Or.inl (by omega)))
      · exact (Or.inr (Or.inr (Or.inl (by omega))))
      · exact (Or.inr (Or.inr (Or.inr (Or.inl (by omega)))))
      · exact (Or.inr (Or.inr (Or.inr (Or.inr (Or.inl (by omega))))))
      · exact (Or.inr (Or.inr (Or.inr (Or.inr (Or.inr (Or.inl (by omega)))))))
      · exact (Or.inr (Or.inr (Or.inr (Or.inr (Or.inr (Or.inr (Or.inl (by omega))))))))
      · exact (Or.inr (Or.inr (Or.inr (Or.inr (Or.inr (Or.inr (Or.inr (Or.inl (by omega)))))))))
      · exact (Or.inr (Or.inr (Or.inr (Or.inr (Or.inr (Or.inr (Or.inr (Or.inr (Or.inl (by omega))))))))))
      · exact (Or.inr (Or.inr (Or.inr (Or.inr (Or.inr (Or.inr (Or.inr (Or.inr (Or.inr (Or.inl (by omega)))))))))))
      · exact (Or.inr (Or.inr (Or.inr (Or.inr (Or.inr (Or.inr (Or.inr (Or.inr (Or.inr (Or.inr (Or.inl (by omega))))))))))))
      · exact (Or.inr (Or.inr (Or.inr (Or.inr (Or.inr (Or.inr (Or.inr (Or.inr (Or.inr (Or.inr (Or.inr (Or.inl (by omega)))))))))))))
      · exact (Or.inr (Or.inr (Or.inr (Or.inr (Or.inr (Or.inr (Or.inr (Or.inr (Or.inr (Or.inr (Or.inr (Or.inr (by omega))))))))))))))))
def Wr_X11_route (a : Nat) (j : Int) : Prop := (a = 58 ∧ j = 10) ∨ (a = 58 ∧ j = 11) ∨ (a = 58 ∧ j = 12) ∨ (a = 58 ∧ j = 13) ∨ (a = 0 ∧ j = 16) ∨ (a = 0 ∧ j = 17) ∨ (a = 52 ∧ j = 2) ∨ (a = 46 ∧ j = 5) ∨ (a = 58 ∧ j = 9) ∨ ((47 ≤ a ∧ a ≤ 50)) ∨ ((53 ≤ a ∧ a ≤ 54)) ∨ ((56 ≤ a ∧ a ≤ 57)) ∨ ((59 ≤ a ∧ a ≤ 67))
theorem fr_X11_route {N : Nat} {v1 : Int} {σ : Sto} {res : Int × Sto} (hF : F_X11_route N v1 σ = some res) : Fr (Wr_X11_route) σ res.2 := by
  unfold F_X11_route at hF
  by_cases c1 : 0 ≤ v1
  · have hF := (if_pos c1).symm.trans hF
    obtain ⟨q2, eq2, hF⟩ := bind_some' hF
    by_cases c3 : (q2.1 58 10) ≤ v1
    · have hF := (if_pos c3).symm.trans hF
      obtain rfl := Option.some.inj hF
      exact (Fr_tr Fr.rf (Fr_mono (fr_X11_refreshFlow (res := q2) eq2) (fun a j h => by
      unfold Wr_X11_refreshFlow at h
      unfold Wr_X11_route
      rcases h with h | h | h | h | h | h | h | h | h | h | h | h | h
      · exact (Or.inl (by omega))
      · exact (Or.inr (Or.inl (by omega)))
      · exact (Or.inr (Or.inr (Or.inl (by omega))))
      · exact (Or.inr (Or.inr (Or.inr (Or.inl (by omega)))))
      · exact (Or.inr (Or.inr (Or.inr (Or.inr (Or.inl (by omega))))))
      · exact (Or.inr (Or.inr (Or.inr (Or.inr (Or.inr (Or.inl (by omega)))))))
      · exact (Or.inr (Or.inr (Or.inr (Or.inr (Or.inr (Or.inr (Or.inl (by omega))))))))
      · exact (Or.inr (Or.inr (Or.inr (Or.inr (Or.inr (Or.inr (Or.inr (Or.inl (by omega)))))))))
      · exact (Or.inr (Or.inr (Or.inr (Or.inr (Or.inr (Or.inr (Or.inr (Or.inr (Or.inl (by omega))))))))))
      · exact (Or.inr (Or.inr (Or.inr (Or.inr (Or.inr (Or.inr (Or.inr (Or.inr (Or.inr (Or.inl (by omega)))))))))))
      · exact (Or.inr (Or.inr (Or.inr (Or.inr (Or.inr (Or.inr (Or.inr (Or.inr (Or.inr (Or.inr (Or.inl (by omega))))))))))))
      · exact (Or.inr (Or.inr (Or.inr (Or.inr (Or.inr (Or.inr (Or.inr (Or.inr (Or.inr (Or.inr (Or.inr (Or.inl (by omega)))))))))))))
      · exact (Or.inr (Or.inr (Or.inr (Or.inr (Or.inr (Or.inr (Or.inr (Or.inr (Or.inr (Or.inr (Or.inr (Or.inr (by omega))))))))))))))))
    · have hF := (if_neg c3).symm.trans hF
      obtain ⟨b4, hF⟩ := inb_some hF
      obtain rfl := Option.some.inj hF
      exact (Fr_tr Fr.rf (Fr_mono (fr_X11_refreshFlow (res := q2) eq2) (fun a j h => by
      unfold Wr_X11_refreshFlow at h
      unfold Wr_X11_route
      rcases h with h | h | h | h | h | h | h | h | h | h | h | h | h
      · exact (Or.inl (by omega))
      · exact (Or.inr (Or.inl (by omega)))
      · exact (Or.inr (Or.inr (Or.inl (by omega))))
      · exact (Or.inr (Or.inr (Or.inr (Or.inl (by omega)))))
      · exact (Or.inr (Or.inr (Or.inr (Or.inr (Or.inl (by omega))))))
      · exact (Or.inr (Or.inr (Or.inr (Or.inr (Or.inr (Or.inl (by omega)))))))
      · exact (Or.inr (Or.inr (Or.inr (Or.inr (Or.inr (Or.inr (Or.inl (by omega))))))))
      · exact (Or.inr (Or.inr (Or.inr (Or.inr (Or.inr (Or.inr (Or.inr (Or.inl (by omega)))))))))
      · exact (Or.inr (Or.inr (Or.inr (Or.inr (Or.inr (Or.inr (Or.inr (Or.inr (Or.inl (by omega))))))))))
      · exact (Or.inr (Or.inr (Or.inr (Or.inr (Or.inr (Or.inr (Or.inr (Or.inr (Or.inr (Or.inl (by omega)))))))))))
      · exact (Or.inr (Or.inr (Or.inr (Or.inr (Or.inr (Or.inr (Or.inr (Or.inr (Or.inr (Or.inr (Or.inl (by omega))))))))))))
      · exact (Or.inr (Or.inr (Or.inr (Or.inr (Or.inr (Or.inr (Or.inr (Or.inr (Or.inr (Or.inr (Or.inr (Or.inl (by omega)))))))))))))
      · exact (Or.inr (Or.inr (Or.inr (Or.inr (Or.inr (Or.inr (Or.inr (Or.inr (Or.inr (Or.inr (Or.inr (Or.inr (by omega))))))))))))))))
  · have hF := (if_neg c1).symm.trans hF
    obtain rfl := Option.some.inj hF
    exact Fr.rf
def Wr_X11_dearest (a : Nat) (j : Int) : Prop := (a = 58 ∧ j = 10) ∨ (a = 58 ∧ j = 11) ∨ (a = 58 ∧ j = 12) ∨ (a = 58 ∧ j = 13) ∨ (a = 0 ∧ j = 16) ∨ (a = 0 ∧ j = 17) ∨ (a = 52 ∧ j = 2) ∨ (a = 46 ∧ j = 5) ∨ (a = 58 ∧ j = 9) ∨ ((47 ≤ a ∧ a ≤ 50)) ∨ ((53 ≤ a ∧ a ≤ 54)) ∨ ((56 ≤ a ∧ a ≤ 57)) ∨ ((59 ≤ a ∧ a ≤ 67))
theorem fr_X11_dearest_J98 {N : Nat}  {nx11 : (Int × Int × Int) → Option (Int × Sto)} {v1 : Int} {v2 : Int} {v3 : Int} {σ : Sto} {res : Int × Sto} (hnx11 : ∀ q, nx11 q = some res → Fr (Wr_X11_dearest) σ res.2) (hF : F_X11_dearest_J98 N nx11 v1 v2 v3 σ = some res) : Fr (Wr_X11_dearest) σ res.2 := by
  unfold F_X11_dearest_J98 at hF
  exact hnx11 _ hF
theorem fr_X11_dearest_J92 {N : Nat}  {nx11 : (Int × Int × Int) → Option (Int × Sto)} {nx25 : (Int × Int × Int) → Option (Int × Sto)} {v1 : Int} {v2 : Int} {v3 : Int} {v4 : Int} {σ : Sto} {res : Int × Sto} (hnx11 : ∀ q, nx11 q = some res → Fr (Wr_X11_dearest) σ res.2) (hnx25 : ∀ q, nx25 q = some res → Fr (Wr_X11_dearest) σ res.2) (hF : F_X11_dearest_J92 N nx11 nx25 v1 v2 v3 v4 σ = some res) : Fr (Wr_X11_dearest) σ res.2 := by
  unfold F_X11_dearest_J92 at hF
  exact hnx25 _ hF
theorem fr_X11_dearest_B25 {N : Nat}  {nx11 : (Int × Int × Int) → Option (Int × Sto)} {nx25 : (Int × Int × Int) → Option (Int × Sto)} {v3 : Int} {v1 : Int} {v2 : Int} {v4 : Int} {σ : Sto} {res : Int × Sto} (hnx11 : ∀ q, nx11 q = some res → Fr (Wr_X11_dearest) σ res.2) (hnx25 : ∀ q, nx25 q = some res → Fr (Wr_X11_dearest) σ res.2) (hF : F_X11_dearest_B25 N nx11 nx25 v3 v1 v2 v4 σ = some res) : Fr (Wr_X11_dearest) σ res.2 := by
  unfold F_X11_dearest_B25 at hF
  obtain ⟨b4, eb4, kb4, hF⟩ := asB_some hF
  by_cases c5 : (σ.1 b4 9) ≤ v4
  · have hF := (if_pos c5).symm.trans hF
    exact fr_X11_dearest_J98 hnx11 hF
  · have hF := (if_neg c5).symm.trans hF
    obtain ⟨b6, hF⟩ := inb_some hF
    by_cases c7 : (σ.1 63 (ja (jm v3 12) v4)) ≤ 0
    · have hF := (if_pos c7).symm.trans hF
      exact fr_X11_dearest_J92 hnx11 hnx25 hF
    · have hF := (if_neg c7).symm.trans hF
      by_cases c8 : (σ.1 57 (ja (jm v3 12) v4)) ≤ v2
      · have hF := (if_pos c8).symm.trans hF
        exact fr_X11_dearest_J92 hnx11 hnx25 hF
      · have hF := (if_neg c8).symm.trans hF
        exact fr_X11_dearest_J92 hnx11 hnx25 hF
theorem fr_X11_dearest_B11 {N : Nat}  {nx11 : (Int × Int × Int) → Option (Int × Sto)} {v1 : Int} {v2 : Int} {v3 : Int} {σ : Sto} {res : Int × Sto} (hnx11 : ∀ q, nx11 q = some res → Fr (Wr_X11_dearest) σ res.2) (hF : F_X11_dearest_B11 N nx11 v1 v2 v3 σ = some res) : Fr (Wr_X11_dearest) σ res.2 := by
  unfold F_X11_dearest_B11 at hF
  obtain ⟨b2, eb2, kb2, hF⟩ := asB_some hF
  by_cases c3 : (σ.1 b2 9) ≤ v3
  · have hF := (if_pos c3).symm.trans hF
    obtain rfl := Option.some.inj hF
    exact Fr.rf
  · have hF := (if_neg c3).symm.trans hF
    exact (loopK_ind (res := res) (P := fun (q : Int × Int × Int) => Fr (Wr_X11_dearest) σ res.2) (fun nx q hn hF => fr_X11_dearest_B25 hnx11 hn hF) N (v1, v2, 0) hF)
theorem fr_X11_dearest {N : Nat}  {σ : Sto} {res : Int × Sto} (hF : F_X11_dearest N  σ = some res) : Fr (Wr_X11_dearest) σ res.2 := by
  unfold F_X11_dearest at hF
  obtain ⟨q1, eq1, hF⟩ := bind_some' hF
  exact Fr_tr (Fr_tr Fr.rf (Fr_mono (fr_X11_refreshFlow (res := q1) eq1) (fun a j h => by
      unfold Wr_X11_refreshFlow at h
      unfold Wr_X11_dearest
      rcases h with h | h | h | h | h | h | h | h | h | h | h | h | h
      · exact (Or.inl (by omega))
      · exact (Or.inr (Or.inl (by omega)))
      · exact (Or.inr (Or.inr (Or.inl (by omega))))
      · exact (Or.inr (Or.inr (Or.inr (Or.inl (by omega)))))
      · exact (Or.inr (Or.inr (Or.inr (Or.inr (Or.inl (by omega))))))
      · exact (Or.inr (Or.inr (Or.inr (Or.inr (Or.inr (Or.inl (by omega)))))))
      · exact (Or.inr (Or.inr (Or.inr (Or.inr (Or.inr (Or.inr (Or.inl (by omega))))))))
      · exact (Or.inr (Or.inr (Or.inr (Or.inr (Or.inr (Or.inr (Or.inr (Or.inl (by omega)))))))))
      · exact (Or.inr (Or.inr (Or.inr (Or.inr (Or.inr (Or.inr (Or.inr (Or.inr (Or.inl (by omega))))))))))
      · exact (Or.inr (Or.inr (Or.inr (Or.inr (Or.inr (Or.inr (Or.inr (Or.inr (Or.inr (Or.inl (by omega)))))))))))
      · exact (Or.inr (Or.inr (Or.inr (Or.inr (Or.inr (Or.inr (Or.inr (Or.inr (Or.inr (Or.inr (Or.inl (by omega))))))))))))
      · exact (Or.inr (Or.inr (Or.inr (Or.inr (Or.inr (Or.inr (Or.inr (Or.inr (Or.inr (Or.inr (Or.inr (Or.inl (by omega)))))))))))))
      · exact (Or.inr (Or.inr (Or.inr (Or.inr (Or.inr (Or.inr (Or.inr (Or.inr (Or.inr (Or.inr (Or.inr (Or.inr (by omega)))))))))))))))) (loopK_ind (res := res) (P := fun (q : Int × Int × Int) => Fr (Wr_X11_dearest) q1 res.2) (fun nx q hn hF => fr_X11_dearest_B11 hn hF) N ((-2), (-1), 0) hF)
def Wr_X11_carried (a : Nat) (j : Int) : Prop := (a = 58 ∧ j = 10) ∨ (a = 58 ∧ j = 11) ∨ (a = 58 ∧ j = 12) ∨ (a = 58 ∧ j = 13) ∨ (a = 0 ∧ j = 16) ∨ (a = 0 ∧ j = 17) ∨ (a = 52 ∧ j = 2) ∨ (a = 46 ∧ j = 5) ∨ (a = 58 ∧ j = 9) ∨ ((47 ≤ a ∧ a ≤ 50)) ∨ ((53 ≤ a ∧ a ≤ 54)) ∨ ((56 ≤ a ∧ a ≤ 57)) ∨ ((59 ≤ a ∧ a ≤ 67))
theorem fr_X11_carried_J22 {N : Nat}   {v1 : Int} {t0 : Int} {σ : Sto} {res : Int × Sto} (hF : F_X11_carried_J22 N  v1 t0 σ = some res) : Fr (Wr_X11_carried) σ res.2 := by
  unfold F_X11_carried_J22 at hF
  by_cases c3 : v1 < 2
  · have hF := (if_pos c3).symm.trans hF
    obtain ⟨q4, eq4, hF⟩ := bind_some' hF
    obtain ⟨q5, eq5, hF⟩ := bind_some' hF
    obtain rfl := Option.some.inj hF
    exact (Fr_tr Fr.rf (Fr_mono (fr_X11_refreshFlow (res := q4) eq4) (fun a j h => by
      unfold Wr_X11_refreshFlow at h
      unfold Wr_X11_carried
      rcases h with h | h | h | h | h | h | h | h | h | h | h | h | h
      · exact (Or.inl (by omega))
      · exact (Or.inr (Or.inl (by omega)))
      · exact (Or.inr (Or.inr (Or.inl (by omega))))
      · exact (Or.inr (Or.inr (Or.inr (Or.inl (by omega)))))
      · exact (Or.inr (Or.inr (Or.inr (Or.inr (Or.inl (by omega))))))
      · exact (Or.inr (Or.inr (Or.inr (Or.inr (Or.inr (Or.inl (by omega)))))))
      · exact (Or.inr (Or.inr (Or.inr (Or.inr (Or.inr (Or.inr (Or.inl (by omega))))))))
      · exact (Or.inr (Or.inr (Or.inr (Or.inr (Or.inr (Or.inr (Or.inr (Or.inl (by omega)))))))))
      · exact (Or.inr (Or.inr (Or.inr (Or.inr (Or.inr (Or.inr (Or.inr (Or.inr (Or.inl (by omega))))))))))
      · exact (Or.inr (Or.inr (Or.inr (Or.inr (Or.inr (Or.inr (Or.inr (Or.inr (Or.inr (Or.inl (by omega)))))))))))
      · exact (Or.inr (Or.inr (Or.inr (Or.inr (Or.inr (Or.inr (Or.inr (Or.inr (Or.inr (Or.inr (Or.inl (by omega))))))))))))
      · exact (Or.inr (Or.inr (Or.inr (Or.inr (Or.inr (Or.inr (Or.inr (Or.inr (Or.inr (Or.inr (Or.inr (Or.inl (by omega)))))))))))))
      · exact (Or.inr (Or.inr (Or.inr (Or.inr (Or.inr (Or.inr (Or.inr (Or.inr (Or.inr (Or.inr (Or.inr (Or.inr (by omega))))))))))))))))
  · have hF := (if_neg c3).symm.trans hF
    obtain ⟨q6, eq6, hF⟩ := bind_some' hF
    obtain rfl := Option.some.inj hF
    exact Fr.rf
theorem fr_X11_carried {N : Nat} {v1 : Int} {σ : Sto} {res : Int × Sto} (hF : F_X11_carried N v1 σ = some res) : Fr (Wr_X11_carried) σ res.2 := by
  unfold F_X11_carried at hF
  by_cases c1 : v1 < 0
  · have hF := (if_pos c1).symm.trans hF
    obtain rfl := Option.some.inj hF
    exact Fr.rf
  · have hF := (if_neg c1).symm.trans hF
    by_cases c2 : v1 ≤ 3
    · have hF := (if_pos c2).symm.trans hF
      by_cases c7 : (jand v1 1) = 0
      · have hF := (if_pos c7).symm.trans hF
        exact fr_X11_carried_J22  hF
      · have hF := (if_neg c7).symm.trans hF
        exact fr_X11_carried_J22  hF
    · have hF := (if_neg c2).symm.trans hF
      obtain rfl := Option.some.inj hF
      exact Fr.rf
def Wr_X11_pays (a : Nat) (j : Int) : Prop := (a = 58 ∧ j = 10) ∨ (a = 58 ∧ j = 11) ∨ (a = 58 ∧ j = 12) ∨ (a = 58 ∧ j = 13) ∨ (a = 0 ∧ j = 16) ∨ (a = 0 ∧ j = 17) ∨ (a = 52 ∧ j = 2) ∨ (a = 46 ∧ j = 5) ∨ (a = 58 ∧ j = 9) ∨ ((47 ≤ a ∧ a ≤ 50)) ∨ ((53 ≤ a ∧ a ≤ 54)) ∨ ((56 ≤ a ∧ a ≤ 57)) ∨ ((59 ≤ a ∧ a ≤ 67))
theorem fr_X11_pays {N : Nat} {v1 : Int} {v2 : Int} {σ : Sto} {res : Int × Sto} (hF : F_X11_pays N v1 v2 σ = some res) : Fr (Wr_X11_pays) σ res.2 := by
  unfold F_X11_pays at hF
  obtain ⟨b1, eb1, kb1, hF⟩ := asB_some hF
  obtain ⟨q2, eq2, hF⟩ := bind_some' hF
  by_cases c3 : q2 = 0
  · have hF := (if_pos c3).symm.trans hF
    obtain rfl := Option.some.inj hF
    exact Fr.rf
  · have hF := (if_neg c3).symm.trans hF
    obtain ⟨q4, eq4, hF⟩ := bind_some' hF
    by_cases c5 : v2 = 0
    · have hF := (if_pos c5).symm.trans hF
      obtain ⟨q6, eq6, hF⟩ := bind_some' hF
      obtain rfl := Option.some.inj hF
      exact (Fr_tr Fr.rf (Fr_mono (fr_X11_refreshFlow (res := q4) eq4) (fun a j h => by
      unfold Wr_X11_refreshFlow at h
      unfold Wr_X11_pays
      rcases h with h | h | h | h | h | h | h | h | h | h | h | h | h
      · exact (Or.inl (by omega))
      · exact (Or.inr (Or.inl (by omega)))
      · exact (Or.inr (Or.inr (Or.inl (by omega))))
      · exact (Or.inr (Or.inr (Or.inr (Or.inl (by omega)))))
      · exact (Or.inr (Or.inr (Or.inr (Or.inr (Or.inl (by omega))))))
      · exact (Or.inr (Or.inr (Or.inr (Or.inr (Or.inr (Or.inl (by omega)))))))
      · exact (Or.inr (Or.inr (Or.inr (Or.inr (Or.inr (Or.inr (Or.inl (by omega))))))))
      · exact (Or.inr (Or.inr (Or.inr (Or.inr (Or.inr (Or.inr (Or.inr (Or.inl (by omega)))))))))
      · exact (Or.inr (Or.inr (Or.inr (Or.inr (Or.inr (Or.inr (Or.inr (Or.inr (Or.inl (by omega))))))))))
      · exact (Or.inr (Or.inr (Or.inr (Or.inr (Or.inr (Or.inr (Or.inr (Or.inr (Or.inr (Or.inl (by omega)))))))))))
      · exact (Or.inr (Or.inr (Or.inr (Or.inr (Or.inr (Or.inr (Or.inr (Or.inr (Or.inr (Or.inr (Or.inl (by omega))))))))))))
      · exact (Or.inr (Or.inr (Or.inr (Or.inr (Or.inr (Or.inr (Or.inr (Or.inr (Or.inr (Or.inr (Or.inr (Or.inl (by omega)))))))))))))
      · exact (Or.inr (Or.inr (Or.inr (Or.inr (Or.inr (Or.inr (Or.inr (Or.inr (Or.inr (Or.inr (Or.inr (Or.inr (by omega))))))))))))))))
    · have hF := (if_neg c5).symm.trans hF
      by_cases c7 : v2 = 1
      · have hF := (if_pos c7).symm.trans hF
        obtain ⟨q8, eq8, hF⟩ := bind_some' hF
        obtain rfl := Option.some.inj hF
        exact (Fr_tr Fr.rf (Fr_mono (fr_X11_refreshFlow (res := q4) eq4) (fun a j h => by
      unfold Wr_X11_refreshFlow at h
      unfold Wr_X11_pays
      rcases h with h | h | h | h | h | h | h | h | h | h | h | h | h
      · exact (Or.inl (by omega))
      · exact (Or.inr (Or.inl (by omega)))
      · exact (Or.inr (Or.inr (Or.inl (by omega))))
      · exact (Or.inr (Or.inr (Or.inr (Or.inl (by omega)))))
      · exact (Or.inr (Or.inr (Or.inr (Or.inr (Or.inl (by omega))))))
      · exact (Or.inr (Or.inr (Or.inr (Or.inr (Or.inr (Or.inl (by omega)))))))
      · exact (Or.inr (Or.inr (Or.inr (Or.inr (Or.inr (Or.inr (Or.inl (by omega))))))))
      · exact (Or.inr (Or.inr (Or.inr (Or.inr (Or.inr (Or.inr (Or.inr (Or.inl (by omega)))))))))
      · exact (Or.inr (Or.inr (Or.inr (Or.inr (Or.inr (Or.inr (Or.inr (Or.inr (Or.inl (by omega))))))))))
      · exact (Or.inr (Or.inr (Or.inr (Or.inr (Or.inr (Or.inr (Or.inr (Or.inr (Or.inr (Or.inl (by omega)))))))))))
      · exact (Or.inr (Or.inr (Or.inr (Or.inr (Or.inr (Or.inr (Or.inr (Or.inr (Or.inr (Or.inr (Or.inl (by omega))))))))))))
      · exact (Or.inr (Or.inr (Or.inr (Or.inr (Or.inr (Or.inr (Or.inr (Or.inr (Or.inr (Or.inr (Or.inr (Or.inl (by omega)))))))))))))
      · exact (Or.inr (Or.inr (Or.inr (Or.inr (Or.inr (Or.inr (Or.inr (Or.inr (Or.inr (Or.inr (Or.inr (Or.inr (by omega))))))))))))))))
      · have hF := (if_neg c7).symm.trans hF
        by_cases c9 : v2 = 2
        · have hF := (if_pos c9).symm.trans hF
          obtain ⟨q10, eq10, hF⟩ := bind_some' hF
          obtain rfl := Option.some.inj hF
          exact (Fr_tr Fr.rf (Fr_mono (fr_X11_refreshFlow (res := q4) eq4) (fun a j h => by
      unfold Wr_X11_refreshFlow at h
      unfold Wr_X11_pays
      rcases h with h | h | h | h | h | h | h | h | h | h | h | h | h
      · exact (Or.inl (by omega))
      · exact (Or.inr (Or.inl (by omega)))
      · exact (Or.inr (Or.inr (Or.inl (by omega))))
      · exact (Or.inr (Or.inr (Or.inr (Or.inl (by omega)))))
      · exact (Or.inr (Or.inr (Or.inr (Or.inr (Or.inl (by omega))))))
      · exact (Or.inr (Or.inr (Or.inr (Or.inr (Or.inr (Or.inl (by omega)))))))
      · exact (Or.inr (Or.inr (Or.inr (Or.inr (Or.inr (Or.inr (Or.inl (by omega))))))))
      · exact (Or.inr (Or.inr (Or.inr (Or.inr (Or.inr (Or.inr (Or.inr (Or.inl (by omega)))))))))
      · exact (Or.inr (Or.inr (Or.inr (Or.inr (Or.inr (Or.inr (Or.inr (Or.inr (Or.inl (by omega))))))))))
      · exact (Or.inr (Or.inr (Or.inr (Or.inr (Or.inr (Or.inr (Or.inr (Or.inr (Or.inr (Or.inl (by omega)))))))))))
      · exact (Or.inr (Or.inr (Or.inr (Or.inr (Or.inr (Or.inr (Or.inr (Or.inr (Or.inr (Or.inr (Or.inl (by omega))))))))))))
      · exact (Or.inr (Or.inr (Or.inr (Or.inr (Or.inr (Or.inr (Or.inr (Or.inr (Or.inr (Or.inr (Or.inr (Or.inl (by omega)))))))))))))
      · exact (Or.inr (Or.inr (Or.inr (Or.inr (Or.inr (Or.inr (Or.inr (Or.inr (Or.inr (Or.inr (Or.inr (Or.inr (by omega))))))))))))))))
        · have hF := (if_neg c9).symm.trans hF
          by_cases c11 : v2 = 3
          · have hF := (if_pos c11).symm.trans hF
            obtain ⟨q12, eq12, hF⟩ := bind_some' hF
            obtain rfl := Option.some.inj hF
            exact (Fr_tr Fr.rf (Fr_mono (fr_X11_refreshFlow (res := q4) eq4) (fun a j h => by
      unfold Wr_X11_refreshFlow at h
      unfold Wr_X11_pays
      rcases h with h | h | h | h | h | h | h | h | h | h | h | h | h
      · exact (Or.inl (by omega))
      · exact (Or.inr (Or.inl (by omega)))
      · exact (Or.inr (Or.inr (Or.inl (by omega))))
      · exact (Or.inr (Or.inr (Or.inr (Or.inl (by omega)))))
      · exact (Or.inr (Or.inr (Or.inr (Or.inr (Or.inl (by omega))))))
      · exact (Or.inr (Or.inr (Or.inr (Or.inr (Or.inr (Or.inl (by omega)))))))
      · exact (Or.inr (Or.inr (Or.inr (Or.inr (Or.inr (Or.inr (Or.inl (by omega))))))))
      · exact (Or.inr (Or.inr (Or.inr (Or.inr (Or.inr (Or.inr (Or.inr (Or.inl (by omega)))))))))
      · exact (Or.inr (Or.inr (Or.inr (Or.inr (Or.inr (Or.inr (Or.inr (Or.inr (Or.inl (by omega))))))))))
      · exact (Or.inr (Or.inr (Or.inr (Or.inr (Or.inr (Or.inr (Or.inr (Or.inr (Or.inr (Or.inl (by omega)))))))))))
      · exact (Or.inr (Or.inr (Or.inr (Or.inr (Or.inr (Or.inr (Or.inr (Or.inr (Or.inr (Or.inr (Or.inl (by omega))))))))))))
      · exact (Or.inr (Or.inr (Or.inr (Or.inr (Or.inr (Or.inr (Or.inr (Or.inr (Or.inr (Or.inr (Or.inr (Or.inl (by omega)))))))))))))
      · exact (Or.inr (Or.inr (Or.inr (Or.inr (Or.inr (Or.inr (Or.inr (Or.inr (Or.inr (Or.inr (Or.inr (Or.inr (by omega))))))))))))))))
          · have hF := (if_neg c11).symm.trans hF
            obtain rfl := Option.some.inj hF
            exact (Fr_tr Fr.rf (Fr_mono (fr_X11_refreshFlow (res := q4) eq4) (fun a j h => by
      unfold Wr_X11_refreshFlow at h
      unfold Wr_X11_pays
      rcases h with h | h | h | h | h | h | h | h | h | h | h | h | h
      · exact (Or.inl (by omega))
      · exact (Or.inr (Or.inl (by omega)))
      · exact (Or.inr (Or.inr (Or.inl (by omega))))
      · exact (Or.inr (Or.inr (Or.inr (Or.inl (by omega)))))
      · exact (Or.inr (Or.inr (Or.inr (Or.inr (Or.inl (by omega))))))
      · exact (Or.inr (Or.inr (Or.inr (Or.inr (Or.inr (Or.inl (by omega)))))))
      · exact (Or.inr (Or.inr (Or.inr (Or.inr (Or.inr (Or.inr (Or.inl (by omega))))))))
      · exact (Or.inr (Or.inr (Or.inr (Or.inr (Or.inr (Or.inr (Or.inr (Or.inl (by omega)))))))))
      · exact (Or.inr (Or.inr (Or.inr (Or.inr (Or.inr (Or.inr (Or.inr (Or.inr (Or.inl (by omega))))))))))
      · exact (Or.inr (Or.inr (Or.inr (Or.inr (Or.inr (Or.inr (Or.inr (Or.inr (Or.inr (Or.inl (by omega)))))))))))
      · exact (Or.inr (Or.inr (Or.inr (Or.inr (Or.inr (Or.inr (Or.inr (Or.inr (Or.inr (Or.inr (Or.inl (by omega))))))))))))
      · exact (Or.inr (Or.inr (Or.inr (Or.inr (Or.inr (Or.inr (Or.inr (Or.inr (Or.inr (Or.inr (Or.inr (Or.inl (by omega)))))))))))))
      · exact (Or.inr (Or.inr (Or.inr (Or.inr (Or.inr (Or.inr (Or.inr (Or.inr (Or.inr (Or.inr (Or.inr (Or.inr (by omega))))))))))))))))
def Wr_X11_balance (a : Nat) (j : Int) : Prop := (a = 58 ∧ j = 10) ∨ (a = 58 ∧ j = 11) ∨ (a = 58 ∧ j = 12) ∨ (a = 58 ∧ j = 13) ∨ (a = 0 ∧ j = 16) ∨ (a = 0 ∧ j = 17) ∨ (a = 52 ∧ j = 2) ∨ (a = 46 ∧ j = 5) ∨ (a = 58 ∧ j = 9) ∨ ((47 ≤ a ∧ a ≤ 50)) ∨ ((53 ≤ a ∧ a ≤ 54)) ∨ ((56 ≤ a ∧ a ≤ 57)) ∨ ((59 ≤ a ∧ a ≤ 67))
theorem fr_X11_balance {N : Nat} {v1 : Int} {σ : Sto} {res : Int × Sto} (hF : F_X11_balance N v1 σ = some res) : Fr (Wr_X11_balance) σ res.2 := by
  unfold F_X11_balance at hF
  obtain ⟨b1, eb1, kb1, hF⟩ := asB_some hF
  obtain ⟨q2, eq2, hF⟩ := bind_some' hF
  by_cases c3 : q2 = 0
  · have hF := (if_pos c3).symm.trans hF
    obtain rfl := Option.some.inj hF
    exact Fr.rf
  · have hF := (if_neg c3).symm.trans hF
    obtain ⟨q4, eq4, hF⟩ := bind_some' hF
    obtain ⟨q5, eq5, hF⟩ := bind_some' hF
    obtain ⟨q6, eq6, hF⟩ := bind_some' hF
    obtain rfl := Option.some.inj hF
    exact (Fr_tr Fr.rf (Fr_mono (fr_X11_refreshFlow (res := q4) eq4) (fun a j h => by
      unfold Wr_X11_refreshFlow at h
      unfold Wr_X11_balance
      rcases h with h | h | h | h | h | h | h | h | h | h | h | h | h
      · exact (Or.inl (by omega))
      · exact (Or.inr (Or.inl (by omega)))
      · exact (Or.inr (Or.inr (Or.inl (by omega))))
      · exact (Or.inr (Or.inr (Or.inr (Or.inl (by omega)))))
      · exact (Or.inr (Or.inr (Or.inr (Or.inr (Or.inl (by omega))))))
      · exact (Or.inr (Or.inr (Or.inr (Or.inr (Or.inr (Or.inl (by omega)))))))
      · exact (Or.inr (Or.inr (Or.inr (Or.inr (Or.inr (Or.inr (Or.inl (by omega))))))))
      · exact (Or.inr (Or.inr (Or.inr (Or.inr (Or.inr (Or.inr (Or.inr (Or.inl (by omega)))))))))
      · exact (Or.inr (Or.inr (Or.inr (Or.inr (Or.inr (Or.inr (Or.inr (Or.inr (Or.inl (by omega))))))))))
      · exact (Or.inr (Or.inr (Or.inr (Or.inr (Or.inr (Or.inr (Or.inr (Or.inr (Or.inr (Or.inl (by omega)))))))))))
      · exact (Or.inr (Or.inr (Or.inr (Or.inr (Or.inr (Or.inr (Or.inr (Or.inr (Or.inr (Or.inr (Or.inl (by omega))))))))))))
      · exact (Or.inr (Or.inr (Or.inr (Or.inr (Or.inr (Or.inr (Or.inr (Or.inr (Or.inr (Or.inr (Or.inr (Or.inl (by omega)))))))))))))
      · exact (Or.inr (Or.inr (Or.inr (Or.inr (Or.inr (Or.inr (Or.inr (Or.inr (Or.inr (Or.inr (Or.inr (Or.inr (by omega))))))))))))))))
def Wr_X11_owes (a : Nat) (j : Int) : Prop := (a = 58 ∧ j = 10) ∨ (a = 58 ∧ j = 11) ∨ (a = 58 ∧ j = 12) ∨ (a = 58 ∧ j = 13) ∨ (a = 0 ∧ j = 16) ∨ (a = 0 ∧ j = 17) ∨ (a = 52 ∧ j = 2) ∨ (a = 46 ∧ j = 5) ∨ (a = 58 ∧ j = 9) ∨ ((47 ≤ a ∧ a ≤ 50)) ∨ ((53 ≤ a ∧ a ≤ 54)) ∨ ((56 ≤ a ∧ a ≤ 57)) ∨ ((59 ≤ a ∧ a ≤ 67))
theorem fr_X11_owes {N : Nat} {v1 : Int} {v2 : Int} {σ : Sto} {res : Int × Sto} (hF : F_X11_owes N v1 v2 σ = some res) : Fr (Wr_X11_owes) σ res.2 := by
  unfold F_X11_owes at hF
  obtain ⟨q1, eq1, hF⟩ := bind_some' hF
  by_cases c2 : q1 = 0
  · have hF := (if_pos c2).symm.trans hF
    obtain rfl := Option.some.inj hF
    exact Fr.rf
  · have hF := (if_neg c2).symm.trans hF
    obtain ⟨q3, eq3, hF⟩ := bind_some' hF
    obtain ⟨q4, eq4, hF⟩ := bind_some' hF
    obtain ⟨q5, eq5, hF⟩ := bind_some' hF
    obtain rfl := Option.some.inj hF
    exact (Fr_tr Fr.rf (Fr_mono (fr_X11_refreshFlow (res := q3) eq3) (fun a j h => by
      unfold Wr_X11_refreshFlow at h
      unfold Wr_X11_owes
      rcases h with h | h | h | h | h | h | h | h | h | h | h | h | h
      · exact (Or.inl (by omega))
      · exact (Or.inr (Or.inl (by omega)))
      · exact (Or.inr (Or.inr (Or.inl (by omega))))
      · exact (Or.inr (Or.inr (Or.inr (Or.inl (by omega)))))
      · exact (Or.inr (Or.inr (Or.inr (Or.inr (Or.inl (by omega))))))
      · exact (Or.inr (Or.inr (Or.inr (Or.inr (Or.inr (Or.inl (by omega)))))))
      · exact (Or.inr (Or.inr (Or.inr (Or.inr (Or.inr (Or.inr (Or.inl (by omega))))))))
      · exact (Or.inr (Or.inr (Or.inr (Or.inr (Or.inr (Or.inr (Or.inr (Or.inl (by omega)))))))))
      · exact (Or.inr (Or.inr (Or.inr (Or.inr (Or.inr (Or.inr (Or.inr (Or.inr (Or.inl (by omega))))))))))
      · exact (Or.inr (Or.inr (Or.inr (Or.inr (Or.inr (Or.inr (Or.inr (Or.inr (Or.inr (Or.inl (by omega)))))))))))
      · exact (Or.inr (Or.inr (Or.inr (Or.inr (Or.inr (Or.inr (Or.inr (Or.inr (Or.inr (Or.inr (Or.inl (by omega))))))))))))
      · exact (Or.inr (Or.inr (Or.inr (Or.inr (Or.inr (Or.inr (Or.inr (Or.inr (Or.inr (Or.inr (Or.inr (Or.inl (by omega)))))))))))))
      · exact (Or.inr (Or.inr (Or.inr (Or.inr (Or.inr (Or.inr (Or.inr (Or.inr (Or.inr (Or.inr (Or.inr (Or.inr (by omega))))))))))))))))
def Wr_X11_settle (a : Nat) (j : Int) : Prop := (a = 58 ∧ j = 10) ∨ (a = 58 ∧ j = 11) ∨ (a = 58 ∧ j = 12) ∨ (a = 58 ∧ j = 13) ∨ (a = 0 ∧ j = 16) ∨ (a = 0 ∧ j = 17) ∨ (a = 52 ∧ j = 2) ∨ (a = 68 ∧ j = 4) ∨ (a = 46 ∧ j = 5) ∨ (a = 58 ∧ j = 9) ∨ ((47 ≤ a ∧ a ≤ 50)) ∨ ((53 ≤ a ∧ a ≤ 54)) ∨ ((56 ≤ a ∧ a ≤ 57)) ∨ ((59 ≤ a ∧ a ≤ 67)) ∨ ((69 ≤ a ∧ a ≤ 72))
theorem fr_X11_settle_J45 {N : Nat}    {σ : Sto} {res : Sto} (hF : F_X11_settle_J45 N   σ = some res) : Fr (Wr_X11_settle) σ res := by
  unfold F_X11_settle_J45 at hF
  obtain ⟨b2, eb2, kb2, hF⟩ := asB_some hF
  obtain ⟨q3, eq3, hF⟩ := bind_some' hF
  obtain rfl := Option.some.inj hF
  exact (Fr_tr Fr.rf (Fr_mono (fr_X9_run (res := q3) eq3) (fun a j h => by
      unfold Wr_X9_run at h
      unfold Wr_X11_settle
      rcases h with h | h
      · exact (Or.inr (Or.inr (Or.inr (Or.inr (Or.inr (Or.inr (Or.inr (Or.inl (by omega)))))))))
      · exact (Or.inr (Or.inr (Or.inr (Or.inr (Or.inr (Or.inr (Or.inr (Or.inr (Or.inr (Or.inr (Or.inr (Or.inr (Or.inr (Or.inr (by omega))))))))))))))))))
theorem fr_X11_settle_B6 {N : Nat}  {nx6 : (Int × Sto) → Option (Sto)} {v1 : Int} {σ : Sto} {res : Sto} (hnx6 : ∀ q, nx6 q = some res → Fr (Wr_X11_settle) q.2 res) (hF : F_X11_settle_B6 N nx6 v1 σ = some res) : Fr (Wr_X11_settle) σ res := by
  unfold F_X11_settle_B6 at hF
  obtain ⟨b4, eb4, kb4, hF⟩ := asB_some hF
  by_cases c5 : (σ.1 b4 8) ≤ v1
  · have hF := (if_pos c5).symm.trans hF
    exact fr_X11_settle_J45  hF
  · have hF := (if_neg c5).symm.trans hF
    obtain ⟨q6, eq6, hF⟩ := bind_some' hF
    obtain ⟨q7, eq7, hF⟩ := bind_some' hF
    obtain ⟨b8, hF⟩ := inb_some hF
    exact Fr_tr (Fr_up Fr.rf (show Wr_X11_settle _ _ from (Or.inr (Or.inr (Or.inr (Or.inr (Or.inr (Or.inr (Or.inr (Or.inr (Or.inr (Or.inr (Or.inr (Or.inr (Or.inr (Or.inr (by omega))))))))))))))))) (hnx6 ((ja v1 1), (upI σ 69 v1 (js q6 q7))) hF)
theorem fr_X11_settle {N : Nat}  {σ : Sto} {res : Sto} (hF : F_X11_settle N  σ = some res) : Fr (Wr_X11_settle) σ res := by
  unfold F_X11_settle at hF
  obtain ⟨q1, eq1, hF⟩ := bind_some' hF
  exact Fr_tr (Fr_tr Fr.rf (Fr_mono (fr_X11_refreshFlow (res := q1) eq1) (fun a j h => by
      unfold Wr_X11_refreshFlow at h
      unfold Wr_X11_settle
      rcases h with h | h | h | h | h | h | h | h | h | h | h | h | h
      · exact (Or.inl (by omega))
      · exact (Or.inr (Or.inl (by omega)))
      · exact (Or.inr (Or.inr (Or.inl (by omega))))
      · exact (Or.inr (Or.inr (Or.inr (Or.inl (by omega)))))
      · exact (Or.inr (Or.inr (Or.inr (Or.inr (Or.inl (by omega))))))
      · exact (Or.inr (Or.inr (Or.inr (Or.inr (Or.inr (Or.inl (by omega)))))))
      · exact (Or.inr (Or.inr (Or.inr (Or.inr (Or.inr (Or.inr (Or.inl (by omega))))))))
      · exact (Or.inr (Or.inr (Or.inr (Or.inr (Or.inr (Or.inr (Or.inr (Or.inr (Or.inl (by omega))))))))))
      · exact (Or.inr (Or.inr (Or.inr (Or.inr (Or.inr (Or.inr (Or.inr (Or.inr (Or.inr (Or.inl (by omega)))))))))))
      · exact (Or.inr (Or.inr (Or.inr (Or.inr (Or.inr (Or.inr (Or.inr (Or.inr (Or.inr (Or.inr (Or.inl (by omega))))))))))))
      · exact (Or.inr (Or.inr (Or.inr (Or.inr (Or.inr (Or.inr (Or.inr (Or.inr (Or.inr (Or.inr (Or.inr (Or.inl (by omega)))))))))))))
      · exact (Or.inr (Or.inr (Or.inr (Or.inr (Or.inr (Or.inr (Or.inr (Or.inr (Or.inr (Or.inr (Or.inr (Or.inr (Or.inl (by omega))))))))))))))
      · exact (Or.inr (Or.inr (Or.inr (Or.inr (Or.inr (Or.inr (Or.inr (Or.inr (Or.inr (Or.inr (Or.inr (Or.inr (Or.inr (Or.inl (by omega)))))))))))))))))) (loopK_ind (res := res) (P := fun (q : Int × Sto) => Fr (Wr_X11_settle) q.2 res) (fun nx q hn hF => fr_X11_settle_B6 hn hF) N (0, q1) hF)
def Wr_X11_settles (a : Nat) (j : Int) : Prop := (a = 58 ∧ j = 10) ∨ (a = 58 ∧ j = 11) ∨ (a = 58 ∧ j = 12) ∨ (a = 58 ∧ j = 13) ∨ (a = 0 ∧ j = 16) ∨ (a = 0 ∧ j = 17) ∨ (a = 52 ∧ j = 2) ∨ (a = 68 ∧ j = 4) ∨ (a = 46 ∧ j = 5) ∨ (a = 58 ∧ j = 9) ∨ ((47 ≤ a ∧ a ≤ 50)) ∨ ((53 ≤ a ∧ a ≤ 54)) ∨ ((56 ≤ a ∧ a ≤ 57)) ∨ ((59 ≤ a ∧ a ≤ 67)) ∨ ((69 ≤ a ∧ a ≤ 72))
theorem fr_X11_settles {N : Nat}  {σ : Sto} {res : Int × Sto} (hF : F_X11_settles N  σ = some res) : Fr (Wr_X11_settles) σ res.2 := by
  unfold F_X11_settles at hF
  obtain ⟨q1, eq1, hF⟩ := bind_some' hF
  obtain rfl := Option.some.inj hF
  exact (Fr_tr Fr.rf (Fr_mono (fr_X11_settle (res := q1) eq1) (fun a j h => by
      unfold Wr_X11_settle at h
      unfold Wr_X11_settles
      rcases h with h | h | h | h | h | h | h | h | h | h | h | h | h | h | h
      · exact (Or.inl (by omega))
      · exact (Or.inr (Or.inl (by omega)))
      · exact (Or.inr (Or.inr (Or.inl (by omega))))
      · exact (Or.inr (Or.inr (Or.inr (Or.inl (by omega)))))
      · exact (Or.inr (Or.inr (Or.inr (Or.inr (Or.inl (by omega))))))
      · exact (Or.inr (Or.inr (Or.inr (Or.inr (Or.inr (Or.inl (by omega)))))))
      · exact (Or.inr (Or.inr (Or.inr (Or.inr (Or.inr (Or.inr (Or.inl (by omega))))))))
      · exact (Or.inr (Or.inr (Or.inr (Or.inr (Or.inr (Or.inr (Or.inr (Or.inl (by omega)))))))))
      · exact (Or.inr (Or.inr (Or.inr (Or.inr (Or.inr (Or.inr (Or.inr (Or.inr (Or.inl (by omega))))))))))
      · exact (Or.inr (Or.inr (Or.inr (Or.inr (Or.inr (Or.inr (Or.inr (Or.inr (Or.inr (Or.inl (by omega)))))))))))
      · exact (Or.inr (Or.inr (Or.inr (Or.inr (Or.inr (Or.inr (Or.inr (Or.inr (Or.inr (Or.inr (Or.inl (by omega))))))))))))
      · exact (Or.inr (Or.inr (Or.inr (Or.inr (Or.inr (Or.inr (Or.inr (Or.inr (Or.inr (Or.inr (Or.inr (Or.inl (by omega)))))))))))))
      · exact (Or.inr (Or.inr (Or.inr (Or.inr (Or.inr (Or.inr (Or.inr (Or.inr (Or.inr (Or.inr (Or.inr (Or.inr (Or.inl (by omega))))))))))))))
      · exact (Or.inr (Or.inr (Or.inr (Or.inr (Or.inr (Or.inr (Or.inr (Or.inr (Or.inr (Or.inr (Or.inr (Or.inr (Or.inr (Or.inl (by omega)))))))))))))))
      · exact (Or.inr (Or.inr (Or.inr (Or.inr (Or.inr (Or.inr (Or.inr (Or.inr (Or.inr (Or.inr (Or.inr (Or.inr (Or.inr (Or.inr (by omega))))))))))))))))))
def Wr_X11_settling (a : Nat) (j : Int) : Prop := (a = 58 ∧ j = 10) ∨ (a = 58 ∧ j = 11) ∨ (a = 58 ∧ j = 12) ∨ (a = 58 ∧ j = 13) ∨ (a = 0 ∧ j = 16) ∨ (a = 0 ∧ j = 17) ∨ (a = 52 ∧ j = 2) ∨ (a = 68 ∧ j = 4) ∨ (a = 46 ∧ j = 5) ∨ (a = 58 ∧ j = 9) ∨ ((47 ≤ a ∧ a ≤ 50)) ∨ ((53 ≤ a ∧ a ≤ 54)) ∨ ((56 ≤ a ∧ a ≤ 57)) ∨ ((59 ≤ a ∧ a ≤ 67)) ∨ ((69 ≤ a ∧ a ≤ 72))
theorem fr_X11_settling {N : Nat} {v1 : Int} {v2 : Int} {σ : Sto} {res : Int × Sto} (hF : F_X11_settling N v1 v2 σ = some res) : Fr (Wr_X11_settling) σ res.2 := by
  unfold F_X11_settling at hF
  by_cases c1 : v1 < 0
  · have hF := (if_pos c1).symm.trans hF
    obtain rfl := Option.some.inj hF
    exact Fr.rf
  · have hF := (if_neg c1).symm.trans hF
    by_cases c2 : v2 < 0
    · have hF := (if_pos c2).symm.trans hF
      obtain rfl := Option.some.inj hF
      exact Fr.rf
    · have hF := (if_neg c2).symm.trans hF
      by_cases c3 : v2 ≤ 2
      · have hF := (if_pos c3).symm.trans hF
        obtain ⟨q4, eq4, hF⟩ := bind_some' hF
        by_cases c5 : v1 < (q4.1 68 4)
        · have hF := (if_pos c5).symm.trans hF
          by_cases c6 : v2 = 0
          · have hF := (if_pos c6).symm.trans hF
            obtain ⟨b10, hF⟩ := inb_some hF
            obtain rfl := Option.some.inj hF
            exact (Fr_tr Fr.rf (Fr_mono (fr_X11_settle (res := q4) eq4) (fun a j h => by
      unfold Wr_X11_settle at h
      unfold Wr_X11_settling
      rcases h with h | h | h | h | h | h | h | h | h | h | h | h | h | h | h
      · exact (Or.inl (by omega))
      · exact (Or.inr (Or.inl (by omega)))
      · exact (Or.inr (Or.inr (Or.inl (by omega))))
      · exact (Or.inr (Or.inr (Or.inr (Or.inl (by omega)))))
      · exact (Or.inr (Or.inr (Or.inr (Or.inr (Or.inl (by omega))))))
      · exact (Or.inr (Or.inr (Or.inr (Or.inr (Or.inr (Or.inl (by omega)))))))
      · exact (Or.inr (Or.inr (Or.inr (Or.inr (Or.inr (Or.inr (Or.inl (by omega))))))))
      · exact (Or.inr (Or.inr (Or.inr (Or.inr (Or.inr (Or.inr (Or.inr (Or.inl (by omega)))))))))
      · exact (Or.inr (Or.inr (Or.inr (Or.inr (Or.inr (Or.inr (Or.inr (Or.inr (Or.inl (by omega))))))))))
      · exact (Or.inr (Or.inr (Or.inr (Or.inr (Or.inr (Or.inr (Or.inr (Or.inr (Or.inr (Or.inl (by omega)))))))))))
      · exact (Or.inr (Or.inr (Or.inr (Or.inr (Or.inr (Or.inr (Or.inr (Or.inr (Or.inr (Or.inr (Or.inl (by omega))))))))))))
      · exact (Or.inr (Or.inr (Or.inr (Or.inr (Or.inr (Or.inr (Or.inr (Or.inr (Or.inr (Or.inr (Or.inr (Or.inl (by omega)))))))))))))
      · exact (Or.inr (Or.inr (Or.inr (Or.inr (Or.inr (Or.inr (Or.inr (Or.inr (Or.inr (Or.inr (Or.inr (Or.inr (Or.inl (by omega))))))))))))))
      · exact (Or.inr (Or.inr (Or.inr (Or.inr (Or.inr (Or.inr (Or.inr (Or.inr (Or.inr (Or.inr (Or.inr (Or.inr (Or.inr (Or.inl (by omega)))))))))))))))
      · exact (Or.inr (Or.inr (Or.inr (Or.inr (Or.inr (Or.inr (Or.inr (Or.inr (Or.inr (Or.inr (Or.inr (Or.inr (Or.inr (Or.inr (by omega))))))))))))))))))
          · have hF := (if_neg c6).symm.trans hF
            by_cases c7 : v2 = 1
            · have hF := (if_pos c7).symm.trans hF
              obtain ⟨b9, hF⟩ := inb_some hF
              obtain rfl := Option.some.inj hF
              exact (Fr_tr Fr.rf (Fr_mono (fr_X11_settle (res := q4) eq4) (fun a j h => by
      unfold Wr_X11_settle at h
      unfold Wr_X11_settling
      rcases h with h | h | h | h | h | h | h | h | h | h | h | h | h | h | h
      · exact (Or.inl (by omega))
      · exact (Or.inr (Or.inl (by omega)))
      · exact (Or.inr (Or.inr (Or.inl (by omega))))
      · exact (Or.inr (Or.inr (Or.inr (Or.inl (by omega)))))
      · exact (Or.inr (Or.inr (Or.inr (Or.inr (Or.inl (by omega))))))
      · exact (Or.inr (Or.inr (Or.inr (Or.inr (Or.inr (Or.inl (by omega)))))))
      · exact (Or.inr (Or.inr (Or.inr (Or.inr (Or.inr (Or.inr (Or.inl (by omega))))))))
      · exact (Or.inr (Or.inr (Or.inr (Or.inr (Or.inr (Or.inr (Or.inr (Or.inl (by omega)))))))))
      · exact (Or.inr (Or.inr (Or.inr (Or.inr (Or.inr (Or.inr (Or.inr (Or.inr (Or.inl (by omega))))))))))
      · exact (Or.inr (Or.inr (Or.inr (Or.inr (Or.inr (Or.inr (Or.inr (Or.inr (Or.inr (Or.inl (by omega)))))))))))
      · exact (Or.inr (Or.inr (Or.inr (Or.inr (Or.inr (Or.inr (Or.inr (Or.inr (Or.inr (Or.inr (Or.inl (by omega))))))))))))
      · exact (Or.inr (Or.inr (Or.inr (Or.inr (Or.inr (Or.inr (Or.inr (Or.inr (Or.inr (Or.inr (Or.inr (Or.inl (by omega)))))))))))))
      · exact (Or.inr (Or.inr (Or.inr (Or.inr (Or.inr (Or.inr (Or.inr (Or.inr (Or.inr (Or.inr (Or.inr (Or.inr (Or.inl (by omega))))))))))))))
      · exact (Or.inr (Or.inr (Or.inr (Or.inr (Or.inr (Or.inr (Or.inr (Or.inr (Or.inr (Or.inr (Or.inr (Or.inr (Or.inr (Or.inl (by omega)))))))))))))))
      · exact (Or.inr (Or.inr (Or.inr (Or.inr (Or.inr (Or.inr (Or.inr (Or.inr (Or.inr (Or.inr (Or.inr (Or.inr (Or.inr (Or.inr (by omega))))))))))))))))))
            · have hF := (if_neg c7).symm.trans hF
              obtain ⟨b8, hF⟩ := inb_some hF
              obtain rfl := Option.some.inj hF
              exact (Fr_tr Fr.rf (Fr_mono (fr_X11_settle (res := q4) eq4) (fun a j h => by
      unfold Wr_X11_settle at h
      unfold Wr_X11_settling
      rcases h with h | h | h | h | h | h | h | h | h | h | h | h | h | h | h
      · exact (Or.inl (by omega))
      · exact (Or.inr (Or.inl (by omega)))
      · exact (Or.inr (Or.inr (Or.inl (by omega))))
      · exact (Or.inr (Or.inr (Or.inr (Or.inl (by omega)))))
      · exact (Or.inr (Or.inr (Or.inr (Or.inr (Or.inl (by omega))))))
      · exact (Or.inr (Or.inr (Or.inr (Or.inr (Or.inr (Or.inl (by omega)))))))
      · exact (Or.inr (Or.inr (Or.inr (Or.inr (Or.inr (Or.inr (Or.inl (by omega))))))))
      · exact (Or.inr (Or.inr (Or.inr (Or.inr (Or.inr (Or.inr (Or.inr (Or.inl (by omega)))))))))
      · exact (Or.inr (Or.inr (Or.inr (Or.inr (Or.inr (Or.inr (Or.inr (Or.inr (Or.inl (by omega))))))))))
      · exact (Or.inr (Or.inr (Or.inr (Or.inr (Or.inr (Or.inr (Or.inr (Or.inr (Or.inr (Or.inl (by omega)))))))))))
      · exact (Or.inr (Or.inr (Or.inr (Or.inr (Or.inr (Or.inr (Or.inr (Or.inr (Or.inr (Or.inr (Or.inl (by omega))))))))))))
      · exact (Or.inr (Or.inr (Or.inr (Or.inr (Or.inr (Or.inr (Or.inr (Or.inr (Or.inr (Or.inr (Or.inr (Or.inl (by omega)))))))))))))
      · exact (Or.inr (Or.inr (Or.inr (Or.inr (Or.inr (Or.inr (Or.inr (Or.inr (Or.inr (Or.inr (Or.inr (Or.inr (Or.inl (by omega))))))))))))))
      · exact (Or.inr (Or.inr (Or.inr (Or.inr (Or.inr (Or.inr (Or.inr (Or.inr (Or.inr (Or.inr (Or.inr (Or.inr (Or.inr (Or.inl (by omega)))))))))))))))
      · exact (Or.inr (Or.inr (Or.inr (Or.inr (Or.inr (Or.inr (Or.inr (Or.inr (Or.inr (Or.inr (Or.inr (Or.inr (Or.inr (Or.inr (by omega))))))))))))))))))
        · have hF := (if_neg c5).symm.trans hF
          obtain rfl := Option.some.inj hF
          exact (Fr_tr Fr.rf (Fr_mono (fr_X11_settle (res := q4) eq4) (fun a j h => by
      unfold Wr_X11_settle at h
      unfold Wr_X11_settling
      rcases h with h | h | h | h | h | h | h | h | h | h | h | h | h | h | h
      · exact (Or.inl (by omega))
      · exact (Or.inr (Or.inl (by omega)))
      · exact (Or.inr (Or.inr (Or.inl (by omega))))
      · exact (Or.inr (Or.inr (Or.inr (Or.inl (by omega)))))
      · exact (Or.inr (Or.inr (Or.inr (Or.inr (Or.inl (by omega))))))
      · exact (Or.inr (Or.inr (Or.inr (Or.inr (Or.inr (Or.inl (by omega)))))))
      · exact (Or.inr (Or.inr (Or.inr (Or.inr (Or.inr (Or.inr (Or.inl (by omega))))))))
      · exact (Or.inr (Or.inr (Or.inr (Or.inr (Or.inr (Or.inr (Or.inr (Or.inl (by omega)))))))))
      · exact (Or.inr (Or.inr (Or.inr (Or.inr (Or.inr (Or.inr (Or.inr (Or.inr (Or.inl (by omega))))))))))
      · exact (Or.inr (Or.inr (Or.inr (Or.inr (Or.inr (Or.inr (Or.inr (Or.inr (Or.inr (Or.inl (by omega)))))))))))
      · exact (Or.inr (Or.inr (Or.inr (Or.inr (Or.inr (Or.inr (Or.inr (Or.inr (Or.inr (Or.inr (Or.inl (by omega))))))))))))
      · exact (Or.inr (Or.inr (Or.inr (Or.inr (Or.inr (Or.inr (Or.inr (Or.inr (Or.inr (Or.inr (Or.inr (Or.inl (by omega)))))))))))))
      · exact (Or.inr (Or.inr (Or.inr (Or.inr (Or.inr (Or.inr (Or.inr (Or.inr (Or.inr (Or.inr (Or.inr (Or.inr (Or.inl (by omega))))))))))))))
      · exact (Or.inr (Or.inr (Or.inr (Or.inr (Or.inr (Or.inr (Or.inr (Or.inr (Or.inr (Or.inr (Or.inr (Or.inr (Or.inr (Or.inl (by omega)))))))))))))))
      · exact (Or.inr (Or.inr (Or.inr (Or.inr (Or.inr (Or.inr (Or.inr (Or.inr (Or.inr (Or.inr (Or.inr (Or.inr (Or.inr (Or.inr (by omega))))))))))))))))))
      · have hF := (if_neg c3).symm.trans hF
        obtain rfl := Option.some.inj hF
        exact Fr.rf
def Wr_X11_tax (a : Nat) (j : Int) : Prop := (a = 58 ∧ j = 10) ∨ (a = 58 ∧ j = 11) ∨ (a = 58 ∧ j = 12) ∨ (a = 58 ∧ j = 13) ∨ (a = 0 ∧ j = 16) ∨ (a = 0 ∧ j = 17) ∨ (a = 52 ∧ j = 2) ∨ (a = 46 ∧ j = 5) ∨ (a = 58 ∧ j = 9) ∨ ((47 ≤ a ∧ a ≤ 50)) ∨ ((53 ≤ a ∧ a ≤ 54)) ∨ ((56 ≤ a ∧ a ≤ 57)) ∨ ((59 ≤ a ∧ a ≤ 67))
theorem fr_X11_tax_J82 {N : Nat}  {nx21 : (Int × Int) → Option (Int × Sto)} {v1 : Int} {v2 : Int} {v3 : Int} {σ : Sto} {res : Int × Sto} (hnx21 : ∀ q, nx21 q = some res → Fr (Wr_X11_tax) σ res.2) (hF : F_X11_tax_J82 N nx21 v1 v2 v3 σ = some res) : Fr (Wr_X11_tax) σ res.2 := by
  unfold F_X11_tax_J82 at hF
  exact hnx21 _ hF
theorem fr_X11_tax_B21 {N : Nat}  {nx21 : (Int × Int) → Option (Int × Sto)} {v1 : Int} {v2 : Int} {v3 : Int} {σ : Sto} {res : Int × Sto} (hnx21 : ∀ q, nx21 q = some res → Fr (Wr_X11_tax) σ res.2) (hF : F_X11_tax_B21 N nx21 v1 v2 v3 σ = some res) : Fr (Wr_X11_tax) σ res.2 := by
  unfold F_X11_tax_B21 at hF
  obtain ⟨b5, eb5, kb5, hF⟩ := asB_some hF
  by_cases c6 : (σ.1 b5 9) ≤ v3
  · have hF := (if_pos c6).symm.trans hF
    obtain rfl := Option.some.inj hF
    exact Fr.rf
  · have hF := (if_neg c6).symm.trans hF
    obtain ⟨b7, eb7, kb7, hF⟩ := asB_some hF
    obtain ⟨b8, hF⟩ := inb_some hF
    by_cases c9 : (σ.1 (b7 + 4) v3) = v1
    · have hF := (if_pos c9).symm.trans hF
      obtain ⟨b10, eb10, kb10, hF⟩ := asB_some hF
      by_cases c11 : (σ.1 (b10 + 7) v3) ≤ 0
      · have hF := (if_pos c11).symm.trans hF
        exact fr_X11_tax_J82 hnx21 hF
      · have hF := (if_neg c11).symm.trans hF
        obtain ⟨b12, eb12, kb12, hF⟩ := asB_some hF
        obtain ⟨b13, hF⟩ := inb_some hF
        exact fr_X11_tax_J82 hnx21 hF
    · have hF := (if_neg c9).symm.trans hF
      exact fr_X11_tax_J82 hnx21 hF
theorem fr_X11_tax {N : Nat} {v1 : Int} {σ : Sto} {res : Int × Sto} (hF : F_X11_tax N v1 σ = some res) : Fr (Wr_X11_tax) σ res.2 := by
  unfold F_X11_tax at hF
  obtain ⟨b1, eb1, kb1, hF⟩ := asB_some hF
  obtain ⟨q2, eq2, hF⟩ := bind_some' hF
  by_cases c3 : q2 = 0
  · have hF := (if_pos c3).symm.trans hF
    obtain rfl := Option.some.inj hF
    exact Fr.rf
  · have hF := (if_neg c3).symm.trans hF
    obtain ⟨q4, eq4, hF⟩ := bind_some' hF
    exact Fr_tr (Fr_tr Fr.rf (Fr_mono (fr_X11_refreshFlow (res := q4) eq4) (fun a j h => by
      unfold Wr_X11_refreshFlow at h
      unfold Wr_X11_tax
      rcases h with h | h | h | h | h | h | h | h | h | h | h | h | h
      · exact (Or.inl (by omega))
      · exact (Or.inr (Or.inl (by omega)))
      · exact (Or.inr (Or.inr (Or.inl (by omega))))
      · exact (Or.inr (Or.inr (Or.inr (Or.inl (by omega)))))
      · exact (Or.inr (Or.inr (Or.inr (Or.inr (Or.inl (by omega))))))
      · exact (Or.inr (Or.inr (Or.inr (Or.inr (Or.inr (Or.inl (by omega)))))))
      · exact (Or.inr (Or.inr (Or.inr (Or.inr (Or.inr (Or.inr (Or.inl (by omega))))))))
      · exact (Or.inr (Or.inr (Or.inr (Or.inr (Or.inr (Or.inr (Or.inr (Or.inl (by omega)))))))))
      · exact (Or.inr (Or.inr (Or.inr (Or.inr (Or.inr (Or.inr (Or.inr (Or.inr (Or.inl (by omega))))))))))
      · exact (Or.inr (Or.inr (Or.inr (Or.inr (Or.inr (Or.inr (Or.inr (Or.inr (Or.inr (Or.inl (by omega)))))))))))
      · exact (Or.inr (Or.inr (Or.inr (Or.inr (Or.inr (Or.inr (Or.inr (Or.inr (Or.inr (Or.inr (Or.inl (by omega))))))))))))
      · exact (Or.inr (Or.inr (Or.inr (Or.inr (Or.inr (Or.inr (Or.inr (Or.inr (Or.inr (Or.inr (Or.inr (Or.inl (by omega)))))))))))))
      · exact (Or.inr (Or.inr (Or.inr (Or.inr (Or.inr (Or.inr (Or.inr (Or.inr (Or.inr (Or.inr (Or.inr (Or.inr (by omega)))))))))))))))) (loopK_ind (res := res) (P := fun (q : Int × Int) => Fr (Wr_X11_tax) q4 res.2) (fun nx q hn hF => fr_X11_tax_B21 hn hF) N (0, 0) hF)
def Wr_X11_without (a : Nat) (j : Int) : Prop := (a = 83 ∧ j = 10) ∨ (a = 83 ∧ j = 11) ∨ (a = 83 ∧ j = 12) ∨ (a = 83 ∧ j = 13) ∨ (a = 0 ∧ j = 16) ∨ (a = 52 ∧ j = 2) ∨ (a = 46 ∧ j = 5) ∨ (a = 83 ∧ j = 9) ∨ ((47 ≤ a ∧ a ≤ 50)) ∨ ((53 ≤ a ∧ a ≤ 54)) ∨ ((56 ≤ a ∧ a ≤ 57)) ∨ ((84 ≤ a ∧ a ≤ 92))
theorem fr_X11_without {N : Nat} {v1 : Int} {σ : Sto} {res : Int × Sto} (hF : F_X11_without N v1 σ = some res) : Fr (Wr_X11_without) σ res.2 := by
  unfold F_X11_without at hF
  obtain ⟨b1, eb1, kb1, hF⟩ := asB_some hF
  obtain ⟨q2, eq2, hF⟩ := bind_some' hF
  by_cases c3 : q2 = 0
  · have hF := (if_pos c3).symm.trans hF
    obtain rfl := Option.some.inj hF
    exact Fr.rf
  · have hF := (if_neg c3).symm.trans hF
    obtain ⟨q4, eq4, hF⟩ := bind_some' hF
    obtain ⟨b5, eb5, kb5, hF⟩ := asB_some hF
    obtain ⟨b6, eb6, kb6, hF⟩ := asB_some hF
    obtain ⟨q7, eq7, hF⟩ := bind_some' hF
    obtain ⟨q8, eq8, hF⟩ := bind_some' hF
    obtain ⟨q9, eq9, hF⟩ := bind_some' hF
    obtain rfl := Option.some.inj hF
    exact (Fr_tr (Fr_tr (Fr_tr Fr.rf (Fr_mono (fr_X11_refreshNet (res := q4) eq4) (fun a j h => by
      unfold Wr_X11_refreshNet at h
      unfold Wr_X11_without
      rcases h with h | h | h | h | h | h
      · exact (Or.inr (Or.inr (Or.inr (Or.inr (Or.inl (by omega))))))
      · exact (Or.inr (Or.inr (Or.inr (Or.inr (Or.inr (Or.inl (by omega)))))))
      · exact (Or.inr (Or.inr (Or.inr (Or.inr (Or.inr (Or.inr (Or.inl (by omega))))))))
      · exact (Or.inr (Or.inr (Or.inr (Or.inr (Or.inr (Or.inr (Or.inr (Or.inr (Or.inl (by omega))))))))))
      · exact (Or.inr (Or.inr (Or.inr (Or.inr (Or.inr (Or.inr (Or.inr (Or.inr (Or.inr (Or.inl (by omega)))))))))))
      · exact (Or.inr (Or.inr (Or.inr (Or.inr (Or.inr (Or.inr (Or.inr (Or.inr (Or.inr (Or.inr (Or.inl (by omega))))))))))))))) (Fr_mono (fr_X1_load (res := q8) eq8) (fun a j h => by
      unfold Wr_X1_load at h
      unfold Wr_X11_without
      rcases h with h | h
      · exact (Or.inr (Or.inl (by omega)))
      · exact (Or.inr (Or.inr (Or.inr (Or.inr (Or.inr (Or.inr (Or.inr (Or.inr (Or.inr (Or.inr (Or.inr (by omega))))))))))))))) (Fr_mono (fr_X1_run (res := q9) eq9) (fun a j h => by
      unfold Wr_X1_run at h
      unfold Wr_X11_without
      rcases h with h | h | h | h | h | h
      · exact (Or.inl (by omega))
      · exact (Or.inr (Or.inr (Or.inl (by omega))))
      · exact (Or.inr (Or.inr (Or.inr (Or.inl (by omega)))))
      · exact (Or.inr (Or.inr (Or.inr (Or.inr (Or.inr (Or.inr (Or.inr (Or.inl (by omega)))))))))
      · exact (Or.inr (Or.inr (Or.inr (Or.inr (Or.inr (Or.inr (Or.inr (Or.inr (Or.inr (Or.inr (Or.inr (by omega))))))))))))
      · exact (Or.inr (Or.inr (Or.inr (Or.inr (Or.inr (Or.inr (Or.inr (Or.inr (Or.inr (Or.inr (Or.inr (by omega)))))))))))))))
def Wr_X11_gainByRoom (a : Nat) (j : Int) : Prop := (a = 58 ∧ j = 10) ∨ (a = 83 ∧ j = 10) ∨ (a = 58 ∧ j = 11) ∨ (a = 83 ∧ j = 11) ∨ (a = 58 ∧ j = 12) ∨ (a = 83 ∧ j = 12) ∨ (a = 58 ∧ j = 13) ∨ (a = 83 ∧ j = 13) ∨ (a = 0 ∧ j = 16) ∨ (a = 0 ∧ j = 17) ∨ (a = 52 ∧ j = 2) ∨ (a = 46 ∧ j = 5) ∨ (a = 58 ∧ j = 9) ∨ (a = 83 ∧ j = 9) ∨ ((47 ≤ a ∧ a ≤ 50)) ∨ ((53 ≤ a ∧ a ≤ 54)) ∨ ((56 ≤ a ∧ a ≤ 57)) ∨ ((59 ≤ a ∧ a ≤ 67)) ∨ ((84 ≤ a ∧ a ≤ 92))
theorem fr_X11_gainByRoom {N : Nat} {v1 : Int} {v2 : Int} {v3 : Int} {σ : Sto} {res : Int × Sto} (hF : F_X11_gainByRoom N v1 v2 v3 σ = some res) : Fr (Wr_X11_gainByRoom) σ res.2 := by
  unfold F_X11_gainByRoom at hF
  obtain ⟨q1, eq1, hF⟩ := bind_some' hF
  obtain ⟨b2, eb2, kb2, hF⟩ := asB_some hF
  obtain ⟨q3, eq3, hF⟩ := bind_some' hF
  obtain ⟨b4, hF⟩ := inb_some hF
  obtain ⟨q5, eq5, hF⟩ := bind_some' hF
  obtain rfl := Option.some.inj hF
  exact (Fr_tr (Fr_up (Fr_tr (Fr_tr Fr.rf (Fr_mono (fr_X11_refreshFlow (res := q1) eq1) (fun a j h => by
      unfold Wr_X11_refreshFlow at h
      unfold Wr_X11_gainByRoom
      rcases h with h | h | h | h | h | h | h | h | h | h | h | h | h
      · exact (Or.inl (by omega))
      · exact (Or.inr (Or.inr (Or.inl (by omega))))
      · exact (Or.inr (Or.inr (Or.inr (Or.inr (Or.inl (by omega))))))
      · exact (Or.inr (Or.inr (Or.inr (Or.inr (Or.inr (Or.inr (Or.inl (by omega))))))))
      · exact (Or.inr (Or.inr (Or.inr (Or.inr (Or.inr (Or.inr (Or.inr (Or.inr (Or.inl (by omega))))))))))
      · exact (Or.inr (Or.inr (Or.inr (Or.inr (Or.inr (Or.inr (Or.inr (Or.inr (Or.inr (Or.inl (by omega)))))))))))
      · exact (Or.inr (Or.inr (Or.inr (Or.inr (Or.inr (Or.inr (Or.inr (Or.inr (Or.inr (Or.inr (Or.inl (by omega))))))))))))
      · exact (Or.inr (Or.inr (Or.inr (Or.inr (Or.inr (Or.inr (Or.inr (Or.inr (Or.inr (Or.inr (Or.inr (Or.inl (by omega)))))))))))))
      · exact (Or.inr (Or.inr (Or.inr (Or.inr (Or.inr (Or.inr (Or.inr (Or.inr (Or.inr (Or.inr (Or.inr (Or.inr (Or.inl (by omega))))))))))))))
      · exact (Or.inr (Or.inr (Or.inr (Or.inr (Or.inr (Or.inr (Or.inr (Or.inr (Or.inr (Or.inr (Or.inr (Or.inr (Or.inr (Or.inr (Or.inl (by omega))))))))))))))))
      · exact (Or.inr (Or.inr (Or.inr (Or.inr (Or.inr (Or.inr (Or.inr (Or.inr (Or.inr (Or.inr (Or.inr (Or.inr (Or.inr (Or.inr (Or.inr (Or.inl (by omega)))))))))))))))))
      · exact (Or.inr (Or.inr (Or.inr (Or.inr (Or.inr (Or.inr (Or.inr (Or.inr (Or.inr (Or.inr (Or.inr (Or.inr (Or.inr (Or.inr (Or.inr (Or.inr (Or.inl (by omega))))))))))))))))))
      · exact (Or.inr (Or.inr (Or.inr (Or.inr (Or.inr (Or.inr (Or.inr (Or.inr (Or.inr (Or.inr (Or.inr (Or.inr (Or.inr (Or.inr (Or.inr (Or.inr (Or.inr (Or.inl (by omega)))))))))))))))))))))) (Fr_mono (fr_X1_load (res := q3) eq3) (fun a j h => by
      unfold Wr_X1_load at h
      unfold Wr_X11_gainByRoom
      rcases h with h | h
      · exact (Or.inr (Or.inr (Or.inr (Or.inl (by omega)))))
      · exact (Or.inr (Or.inr (Or.inr (Or.inr (Or.inr (Or.inr (Or.inr (Or.inr (Or.inr (Or.inr (Or.inr (Or.inr (Or.inr (Or.inr (Or.inr (Or.inr (Or.inr (Or.inr (by omega)))))))))))))))))))))) (show Wr_X11_gainByRoom _ _ from (Or.inr (Or.inr (Or.inr (Or.inr (Or.inr (Or.inr (Or.inr (Or.inr (Or.inr (Or.inr (Or.inr (Or.inr (Or.inr (Or.inr (Or.inr (Or.inr (Or.inr (Or.inr (by omega))))))))))))))))))))) (Fr_mono (fr_X1_run (res := q5) eq5) (fun a j h => by
      unfold Wr_X1_run at h
      unfold Wr_X11_gainByRoom
      rcases h with h | h | h | h | h | h
      · exact (Or.inr (Or.inl (by omega)))
      · exact (Or.inr (Or.inr (Or.inr (Or.inr (Or.inr (Or.inl (by omega)))))))
      · exact (Or.inr (Or.inr (Or.inr (Or.inr (Or.inr (Or.inr (Or.inr (Or.inl (by omega)))))))))
      · exact (Or.inr (Or.inr (Or.inr (Or.inr (Or.inr (Or.inr (Or.inr (Or.inr (Or.inr (Or.inr (Or.inr (Or.inr (Or.inr (Or.inl (by omega)))))))))))))))
      · exact (Or.inr (Or.inr (Or.inr (Or.inr (Or.inr (Or.inr (Or.inr (Or.inr (Or.inr (Or.inr (Or.inr (Or.inr (Or.inr (Or.inr (Or.inr (Or.inr (Or.inr (Or.inr (by omega)))))))))))))))))))
      · exact (Or.inr (Or.inr (Or.inr (Or.inr (Or.inr (Or.inr (Or.inr (Or.inr (Or.inr (Or.inr (Or.inr (Or.inr (Or.inr (Or.inr (Or.inr (Or.inr (Or.inr (Or.inr (by omega))))))))))))))))))))))
def Wr_X11_worth (a : Nat) (j : Int) : Prop := (a = 58 ∧ j = 10) ∨ (a = 83 ∧ j = 10) ∨ (a = 58 ∧ j = 11) ∨ (a = 83 ∧ j = 11) ∨ (a = 58 ∧ j = 12) ∨ (a = 83 ∧ j = 12) ∨ (a = 58 ∧ j = 13) ∨ (a = 83 ∧ j = 13) ∨ (a = 0 ∧ j = 16) ∨ (a = 0 ∧ j = 17) ∨ (a = 52 ∧ j = 2) ∨ (a = 46 ∧ j = 5) ∨ (a = 58 ∧ j = 9) ∨ (a = 83 ∧ j = 9) ∨ ((47 ≤ a ∧ a ≤ 50)) ∨ ((53 ≤ a ∧ a ≤ 54)) ∨ ((56 ≤ a ∧ a ≤ 57)) ∨ ((59 ≤ a ∧ a ≤ 67)) ∨ ((84 ≤ a ∧ a ≤ 92))
theorem fr_X11_worth_J21 {N : Nat}    {σ : Sto} {res : Int × Sto} (hF : F_X11_worth_J21 N   σ = some res) : Fr (Wr_X11_worth) σ res.2 := by
  unfold F_X11_worth_J21 at hF
  obtain rfl := Option.some.inj hF
  exact Fr.rf
theorem fr_X11_worth {N : Nat} {v1 : Int} {v2 : Int} {v3 : Int} {σ : Sto} {res : Int × Sto} (hF : F_X11_worth N v1 v2 v3 σ = some res) : Fr (Wr_X11_worth) σ res.2 := by
  unfold F_X11_worth at hF
  by_cases c1 : v3 < 1
  · have hF := (if_pos c1).symm.trans hF
    exact fr_X11_worth_J21  hF
  · have hF := (if_neg c1).symm.trans hF
    by_cases c2 : 99999 < v3
    · have hF := (if_pos c2).symm.trans hF
      exact fr_X11_worth_J21  hF
    · have hF := (if_neg c2).symm.trans hF
      obtain ⟨q3, eq3, hF⟩ := bind_some' hF
      by_cases c4 : q3.1 = 0
      · have hF := (if_pos c4).symm.trans hF
        exact Fr_tr (Fr_tr Fr.rf (Fr_mono (fr_X11_isLink (res := q3) eq3) (fun a j h => by
      unfold Wr_X11_isLink at h
      unfold Wr_X11_worth
      rcases h with h | h | h | h | h | h
      · exact (Or.inr (Or.inr (Or.inr (Or.inr (Or.inr (Or.inr (Or.inr (Or.inr (Or.inl (by omega))))))))))
      · exact (Or.inr (Or.inr (Or.inr (Or.inr (Or.inr (Or.inr (Or.inr (Or.inr (Or.inr (Or.inr (Or.inl (by omega))))))))))))
      · exact (Or.inr (Or.inr (Or.inr (Or.inr (Or.inr (Or.inr (Or.inr (Or.inr (Or.inr (Or.inr (Or.inr (Or.inl (by omega)))))))))))))
      · exact (Or.inr (Or.inr (Or.inr (Or.inr (Or.inr (Or.inr (Or.inr (Or.inr (Or.inr (Or.inr (Or.inr (Or.inr (Or.inr (Or.inr (Or.inl (by omega))))))))))))))))
      · exact (Or.inr (Or.inr (Or.inr (Or.inr (Or.inr (Or.inr (Or.inr (Or.inr (Or.inr (Or.inr (Or.inr (Or.inr (Or.inr (Or.inr (Or.inr (Or.inl (by omega)))))))))))))))))
      · exact (Or.inr (Or.inr (Or.inr (Or.inr (Or.inr (Or.inr (Or.inr (Or.inr (Or.inr (Or.inr (Or.inr (Or.inr (Or.inr (Or.inr (Or.inr (Or.inr (Or.inl (by omega))))))))))))))))))))) (fr_X11_worth_J21  hF)
      · have hF := (if_neg c4).symm.trans hF
        obtain ⟨q5, eq5, hF⟩ := bind_some' hF
        obtain rfl := Option.some.inj hF
        exact (Fr_tr (Fr_tr Fr.rf (Fr_mono (fr_X11_isLink (res := q3) eq3) (fun a j h => by
      unfold Wr_X11_isLink at h
      unfold Wr_X11_worth
      rcases h with h | h | h | h | h | h
      · exact (Or.inr (Or.inr (Or.inr (Or.inr (Or.inr (Or.inr (Or.inr (Or.inr (Or.inl (by omega))))))))))
      · exact (Or.inr (Or.inr (Or.inr (Or.inr (Or.inr (Or.inr (Or.inr (Or.inr (Or.inr (Or.inr (Or.inl (by omega))))))))))))
      · exact (Or.inr (Or.inr (Or.inr (Or.inr (Or.inr (Or.inr (Or.inr (Or.inr (Or.inr (Or.inr (Or.inr (Or.inl (by omega)))))))))))))
      · exact (Or.inr (Or.inr (Or.inr (Or.inr (Or.inr (Or.inr (Or.inr (Or.inr (Or.inr (Or.inr (Or.inr (Or.inr (Or.inr (Or.inr (Or.inl (by omega))))))))))))))))
      · exact (Or.inr (Or.inr (Or.inr (Or.inr (Or.inr (Or.inr (Or.inr (Or.inr (Or.inr (Or.inr (Or.inr (Or.inr (Or.inr (Or.inr (Or.inr (Or.inl (by omega)))))))))))))))))
      · exact (Or.inr (Or.inr (Or.inr (Or.inr (Or.inr (Or.inr (Or.inr (Or.inr (Or.inr (Or.inr (Or.inr (Or.inr (Or.inr (Or.inr (Or.inr (Or.inr (Or.inl (by omega))))))))))))))))))))) (Fr_mono (fr_X11_gainByRoom (res := q5) eq5) (fun a j h => by
      unfold Wr_X11_gainByRoom at h
      unfold Wr_X11_worth
      rcases h with h | h | h | h | h | h | h | h | h | h | h | h | h | h | h | h | h | h | h
      · exact (Or.inl (by omega))
      · exact (Or.inr (Or.inl (by omega)))
      · exact (Or.inr (Or.inr (Or.inl (by omega))))
      · exact (Or.inr (Or.inr (Or.inr (Or.inl (by omega)))))
      · exact (Or.inr (Or.inr (Or.inr (Or.inr (Or.inl (by omega))))))
      · exact (Or.inr (Or.inr (Or.inr (Or.inr (Or.inr (Or.inl (by omega)))))))
      · exact (Or.inr (Or.inr (Or.inr (Or.inr (Or.inr (Or.inr (Or.inl (by omega))))))))
      · exact (Or.inr (Or.inr (Or.inr (Or.inr (Or.inr (Or.inr (Or.inr (Or.inl (by omega)))))))))
      · exact (Or.inr (Or.inr (Or.inr (Or.inr (Or.inr (Or.inr (Or.inr (Or.inr (Or.inl (by omega))))))))))
      · exact (Or.inr (Or.inr (Or.inr (Or.inr (Or.inr (Or.inr (Or.inr (Or.inr (Or.inr (Or.inl (by omega)))))))))))
      · exact (Or.inr (Or.inr (Or.inr (Or.inr (Or.inr (Or.inr (Or.inr (Or.inr (Or.inr (Or.inr (Or.inl (by omega))))))))))))
      · exact (Or.inr (Or.inr (Or.inr (Or.inr (Or.inr (Or.inr (Or.inr (Or.inr (Or.inr (Or.inr (Or.inr (Or.inl (by omega)))))))))))))
      · exact (Or.inr (Or.inr (Or.inr (Or.inr (Or.inr (Or.inr (Or.inr (Or.inr (Or.inr (Or.inr (Or.inr (Or.inr (Or.inl (by omega))))))))))))))
      · exact (Or.inr (Or.inr (Or.inr (Or.inr (Or.inr (Or.inr (Or.inr (Or.inr (Or.inr (Or.inr (Or.inr (Or.inr (Or.inr (Or.inl (by omega)))))))))))))))
      · exact (Or.inr (Or.inr (Or.inr (Or.inr (Or.inr (Or.inr (Or.inr (Or.inr (Or.inr (Or.inr (Or.inr (Or.inr (Or.inr (Or.inr (Or.inl (by omega))))))))))))))))
      · exact (Or.inr (Or.inr (Or.inr (Or.inr (Or.inr (Or.inr (Or.inr (Or.inr (Or.inr (Or.inr (Or.inr (Or.inr (Or.inr (Or.inr (Or.inr (Or.inl (by omega)))))))))))))))))
      · exact (Or.inr (Or.inr (Or.inr (Or.inr (Or.inr (Or.inr (Or.inr (Or.inr (Or.inr (Or.inr (Or.inr (Or.inr (Or.inr (Or.inr (Or.inr (Or.inr (Or.inl (by omega))))))))))))))))))
      · exact (Or.inr (Or.inr (Or.inr (Or.inr (Or.inr (Or.inr (Or.inr (Or.inr (Or.inr (Or.inr (Or.inr (Or.inr (Or.inr (Or.inr (Or.inr (Or.inr (Or.inr (Or.inl (by omega)))))))))))))))))))
      · exact (Or.inr (Or.inr (Or.inr (Or.inr (Or.inr (Or.inr (Or.inr (Or.inr (Or.inr (Or.inr (Or.inr (Or.inr (Or.inr (Or.inr (Or.inr (Or.inr (Or.inr (Or.inr (by omega))))))))))))))))))))))
def Wr_X11_lack (a : Nat) (j : Int) : Prop := (a = 58 ∧ j = 10) ∨ (a = 83 ∧ j = 10) ∨ (a = 58 ∧ j = 11) ∨ (a = 83 ∧ j = 11) ∨ (a = 58 ∧ j = 12) ∨ (a = 83 ∧ j = 12) ∨ (a = 58 ∧ j = 13) ∨ (a = 83 ∧ j = 13) ∨ (a = 0 ∧ j = 16) ∨ (a = 0 ∧ j = 17) ∨ (a = 52 ∧ j = 2) ∨ (a = 46 ∧ j = 5) ∨ (a = 58 ∧ j = 9) ∨ (a = 83 ∧ j = 9) ∨ ((47 ≤ a ∧ a ≤ 50)) ∨ ((53 ≤ a ∧ a ≤ 54)) ∨ ((56 ≤ a ∧ a ≤ 57)) ∨ ((59 ≤ a ∧ a ≤ 67)) ∨ ((84 ≤ a ∧ a ≤ 92))
theorem fr_X11_lack_J21 {N : Nat}    {σ : Sto} {res : Int × Sto} (hF : F_X11_lack_J21 N   σ = some res) : Fr (Wr_X11_lack) σ res.2 := by
  unfold F_X11_lack_J21 at hF
  obtain rfl := Option.some.inj hF
  exact Fr.rf
theorem fr_X11_lack {N : Nat} {v1 : Int} {v2 : Int} {v3 : Int} {σ : Sto} {res : Int × Sto} (hF : F_X11_lack N v1 v2 v3 σ = some res) : Fr (Wr_X11_lack) σ res.2 := by
  unfold F_X11_lack at hF
  by_cases c1 : v3 < 1
  · have hF := (if_pos c1).symm.trans hF
    exact fr_X11_lack_J21  hF
  · have hF := (if_neg c1).symm.trans hF
    by_cases c2 : 99999 < v3
    · have hF := (if_pos c2).symm.trans hF
      exact fr_X11_lack_J21  hF
    · have hF := (if_neg c2).symm.trans hF
      obtain ⟨q3, eq3, hF⟩ := bind_some' hF
      by_cases c4 : q3.1 = 0
      · have hF := (if_pos c4).symm.trans hF
        exact Fr_tr (Fr_tr Fr.rf (Fr_mono (fr_X11_isLink (res := q3) eq3) (fun a j h => by
      unfold Wr_X11_isLink at h
      unfold Wr_X11_lack
      rcases h with h | h | h | h | h | h
      · exact (Or.inr (Or.inr (Or.inr (Or.inr (Or.inr (Or.inr (Or.inr (Or.inr (Or.inl (by omega))))))))))
      · exact (Or.inr (Or.inr (Or.inr (Or.inr (Or.inr (Or.inr (Or.inr (Or.inr (Or.inr (Or.inr (Or.inl (by omega))))))))))))
      · exact (Or.inr (Or.inr (Or.inr (Or.inr (Or.inr (Or.inr (Or.inr (Or.inr (Or.inr (Or.inr (Or.inr (Or.inl (by omega)))))))))))))
      · exact (Or.inr (Or.inr (Or.inr (Or.inr (Or.inr (Or.inr (Or.inr (Or.inr (Or.inr (Or.inr (Or.inr (Or.inr (Or.inr (Or.inr (Or.inl (by omega))))))))))))))))
      · exact (Or.inr (Or.inr (Or.inr (Or.inr (Or.inr (Or.inr (Or.inr (Or.inr (Or.inr (Or.inr (Or.inr (Or.inr (Or.inr (Or.inr (Or.inr (Or.inl (by omega)))))))))))))))))
      · exact (Or.inr (Or.inr (Or.inr (Or.inr (Or.inr (Or.inr (Or.inr (Or.inr (Or.inr (Or.inr (Or.inr (Or.inr (Or.inr (Or.inr (Or.inr (Or.inr (Or.inl (by omega))))))))))))))))))))) (fr_X11_lack_J21  hF)
      · have hF := (if_neg c4).symm.trans hF
        obtain ⟨q5, eq5, hF⟩ := bind_some' hF
        obtain rfl := Option.some.inj hF
        exact (Fr_tr (Fr_tr Fr.rf (Fr_mono (fr_X11_isLink (res := q3) eq3) (fun a j h => by
      unfold Wr_X11_isLink at h
      unfold Wr_X11_lack
      rcases h with h | h | h | h | h | h
      · exact (Or.inr (Or.inr (Or.inr (Or.inr (Or.inr (Or.inr (Or.inr (Or.inr (Or.inl (by omega))))))))))
      · exact (Or.inr (Or.inr (Or.inr (Or.inr (Or.inr (Or.inr (Or.inr (Or.inr (Or.inr (Or.inr (Or.inl (by omega))))))))))))
      · exact (Or.inr (Or.inr (Or.inr (Or.inr (Or.inr (Or.inr (Or.inr (Or.inr (Or.inr (Or.inr (Or.inr (Or.inl (by omega)))))))))))))
      · exact (Or.inr (Or.inr (Or.inr (Or.inr (Or.inr (Or.inr (Or.inr (Or.inr (Or.inr (Or.inr (Or.inr (Or.inr (Or.inr (Or.inr (Or.inl (by omega))))))))))))))))
      · exact (Or.inr (Or.inr (Or.inr (Or.inr (Or.inr (Or.inr (Or.inr (Or.inr (Or.inr (Or.inr (Or.inr (Or.inr (Or.inr (Or.inr (Or.inr (Or.inl (by omega)))))))))))))))))
      · exact (Or.inr (Or.inr (Or.inr (Or.inr (Or.inr (Or.inr (Or.inr (Or.inr (Or.inr (Or.inr (Or.inr (Or.inr (Or.inr (Or.inr (Or.inr (Or.inr (Or.inl (by omega))))))))))))))))))))) (Fr_mono (fr_X11_gainByRoom (res := q5) eq5) (fun a j h => by
      unfold Wr_X11_gainByRoom at h
      unfold Wr_X11_lack
      rcases h with h | h | h | h | h | h | h | h | h | h | h | h | h | h | h | h | h | h | h
      · exact (Or.inl (by omega))
      · exact (Or.inr (Or.inl (by omega)))
      · exact (Or.inr (Or.inr (Or.inl (by omega))))
      · exact (Or.inr (Or.inr (Or.inr (Or.inl (by omega)))))
      · exact (Or.inr (Or.inr (Or.inr (Or.inr (Or.inl (by omega))))))
      · exact (Or.inr (Or.inr (Or.inr (Or.inr (Or.inr (Or.inl (by omega)))))))
      · exact (Or.inr (Or.inr (Or.inr (Or.inr (Or.inr (Or.inr (Or.inl (by omega))))))))
      · exact (Or.inr (Or.inr (Or.inr (Or.inr (Or.inr (Or.inr (Or.inr (Or.inl (by omega)))))))))
      · exact (Or.inr (Or.inr (Or.inr (Or.inr (Or.inr (Or.inr (Or.inr (Or.inr (Or.inl (by omega))))))))))
      · exact (Or.inr (Or.inr (Or.inr (Or.inr (Or.inr (Or.inr (Or.inr (Or.inr (Or.inr (Or.inl (by omega)))))))))))
      · exact (Or.inr (Or.inr (Or.inr (Or.inr (Or.inr (Or.inr (Or.inr (Or.inr (Or.inr (Or.inr (Or.inl (by omega))))))))))))
      · exact (Or.inr (Or.inr (Or.inr (Or.inr (Or.inr (Or.inr (Or.inr (Or.inr (Or.inr (Or.inr (Or.inr (Or.inl (by omega)))))))))))))
      · exact (Or.inr (Or.inr (Or.inr (Or.inr (Or.inr (Or.inr (Or.inr (Or.inr (Or.inr (Or.inr (Or.inr (Or.inr (Or.inl (by omega))))))))))))))
      · exact (Or.inr (Or.inr (Or.inr (Or.inr (Or.inr (Or.inr (Or.inr (Or.inr (Or.inr (Or.inr (Or.inr (Or.inr (Or.inr (Or.inl (by omega)))))))))))))))
      · exact (Or.inr (Or.inr (Or.inr (Or.inr (Or.inr (Or.inr (Or.inr (Or.inr (Or.inr (Or.inr (Or.inr (Or.inr (Or.inr (Or.inr (Or.inl (by omega))))))))))))))))
      · exact (Or.inr (Or.inr (Or.inr (Or.inr (Or.inr (Or.inr (Or.inr (Or.inr (Or.inr (Or.inr (Or.inr (Or.inr (Or.inr (Or.inr (Or.inr (Or.inl (by omega)))))))))))))))))
      · exact (Or.inr (Or.inr (Or.inr (Or.inr (Or.inr (Or.inr (Or.inr (Or.inr (Or.inr (Or.inr (Or.inr (Or.inr (Or.inr (Or.inr (Or.inr (Or.inr (Or.inl (by omega))))))))))))))))))
      · exact (Or.inr (Or.inr (Or.inr (Or.inr (Or.inr (Or.inr (Or.inr (Or.inr (Or.inr (Or.inr (Or.inr (Or.inr (Or.inr (Or.inr (Or.inr (Or.inr (Or.inr (Or.inl (by omega)))))))))))))))))))
      · exact (Or.inr (Or.inr (Or.inr (Or.inr (Or.inr (Or.inr (Or.inr (Or.inr (Or.inr (Or.inr (Or.inr (Or.inr (Or.inr (Or.inr (Or.inr (Or.inr (Or.inr (Or.inr (by omega))))))))))))))))))))))
def Wr_X11_reliefWithoutClaims (v1 : Nat) (v3 : Nat) (a : Nat) (j : Int) : Prop := (a = 83 ∧ j = 10) ∨ (a = 83 ∧ j = 11) ∨ (a = 83 ∧ j = 12) ∨ (a = 83 ∧ j = 13) ∨ (a = 73 ∧ j = 3) ∨ (a = 83 ∧ j = 9) ∨ ((81 ≤ a ∧ a ≤ 82)) ∨ ((84 ≤ a ∧ a ≤ 92))
theorem fr_X11_reliefWithoutClaims {N : Nat} {v1 : Nat} {v2 : Int} {v3 : Nat} {σ : Sto} {res : Int × Sto} (hF : F_X11_reliefWithoutClaims N v1 v2 v3 σ = some res) : Fr (Wr_X11_reliefWithoutClaims v1 v3) σ res.2 := by
  unfold F_X11_reliefWithoutClaims at hF
  obtain ⟨q1, eq1, hF⟩ := bind_some' hF
  obtain ⟨b2, eb2, kb2, hF⟩ := asB_some hF
  obtain ⟨q3, eq3, hF⟩ := bind_some' hF
  obtain ⟨b4, eb4, kb4, hF⟩ := asB_some hF
  obtain ⟨q5, eq5, hF⟩ := bind_some' hF
  obtain ⟨q6, eq6, hF⟩ := bind_some' hF
  obtain rfl := Option.some.inj hF
  exact (Fr_tr (Fr_tr (Fr_tr (Fr_tr Fr.rf (Fr_mono (fr_X5_clear (res := q1) eq1) (fun a j h => by have h : Wr_X5_clear _ a j := h; unfold Wr_X5_clear at h; unfold Wr_X11_reliefWithoutClaims; (exact (Or.inr (Or.inr (Or.inr (Or.inr (Or.inl (by omega)))))))))) (Fr_mono (fr_X6_fill (res := q3) eq3) (fun a j h => by have h : Wr_X6_fill _ _ _ _ a j := h; unfold Wr_X6_fill at h; unfold Wr_X11_reliefWithoutClaims; (exact (Or.inr (Or.inr (Or.inr (Or.inr (Or.inr (Or.inr (Or.inl (by omega)))))))))))) (Fr_mono (fr_X1_load (res := q5) eq5) (fun a j h => by
      unfold Wr_X1_load at h
      unfold Wr_X11_reliefWithoutClaims
      rcases h with h | h
      · exact (Or.inr (Or.inl (by omega)))
      · exact (Or.inr (Or.inr (Or.inr (Or.inr (Or.inr (Or.inr (Or.inr (by omega))))))))))) (Fr_mono (fr_X1_run (res := q6) eq6) (fun a j h => by
      unfold Wr_X1_run at h
      unfold Wr_X11_reliefWithoutClaims
      rcases h with h | h | h | h | h | h
      · exact (Or.inl (by omega))
      · exact (Or.inr (Or.inr (Or.inl (by omega))))
      · exact (Or.inr (Or.inr (Or.inr (Or.inl (by omega)))))
      · exact (Or.inr (Or.inr (Or.inr (Or.inr (Or.inr (Or.inl (by omega)))))))
      · exact (Or.inr (Or.inr (Or.inr (Or.inr (Or.inr (Or.inr (Or.inr (by omega))))))))
      · exact (Or.inr (Or.inr (Or.inr (Or.inr (Or.inr (Or.inr (Or.inr (by omega)))))))))))
def Wr_X11_byCarry (a : Nat) (j : Int) : Prop := (a = 83 ∧ j = 10) ∨ (a = 83 ∧ j = 11) ∨ (a = 83 ∧ j = 12) ∨ (a = 83 ∧ j = 13) ∨ (a = 0 ∧ j = 16) ∨ (a = 52 ∧ j = 2) ∨ (a = 73 ∧ j = 3) ∨ (a = 46 ∧ j = 5) ∨ (a = 83 ∧ j = 9) ∨ ((47 ≤ a ∧ a ≤ 50)) ∨ ((53 ≤ a ∧ a ≤ 54)) ∨ ((56 ≤ a ∧ a ≤ 57)) ∨ ((81 ≤ a ∧ a ≤ 82)) ∨ ((84 ≤ a ∧ a ≤ 92))
theorem fr_X11_byCarry {N : Nat} {v1 : Int} {σ : Sto} {res : Int × Sto} (hF : F_X11_byCarry N v1 σ = some res) : Fr (Wr_X11_byCarry) σ res.2 := by
  unfold F_X11_byCarry at hF
  by_cases c1 : v1 < 0
  · have hF := (if_pos c1).symm.trans hF
    obtain rfl := Option.some.inj hF
    exact Fr.rf
  · have hF := (if_neg c1).symm.trans hF
    by_cases c2 : v1 ≤ 1
    · have hF := (if_pos c2).symm.trans hF
      obtain ⟨q3, eq3, hF⟩ := bind_some' hF
      obtain ⟨b4, eb4, kb4, hF⟩ := asB_some hF
      obtain ⟨q5, eq5, hF⟩ := bind_some' hF
      obtain rfl := Option.some.inj hF
      exact (Fr_tr (Fr_tr Fr.rf (Fr_mono (fr_X11_refreshNet (res := q3) eq3) (fun a j h => by
      unfold Wr_X11_refreshNet at h
      unfold Wr_X11_byCarry
      rcases h with h | h | h | h | h | h
      · exact (Or.inr (Or.inr (Or.inr (Or.inr (Or.inl (by omega))))))
      · exact (Or.inr (Or.inr (Or.inr (Or.inr (Or.inr (Or.inl (by omega)))))))
      · exact (Or.inr (Or.inr (Or.inr (Or.inr (Or.inr (Or.inr (Or.inr (Or.inl (by omega)))))))))
      · exact (Or.inr (Or.inr (Or.inr (Or.inr (Or.inr (Or.inr (Or.inr (Or.inr (Or.inr (Or.inl (by omega)))))))))))
      · exact (Or.inr (Or.inr (Or.inr (Or.inr (Or.inr (Or.inr (Or.inr (Or.inr (Or.inr (Or.inr (Or.inl (by omega))))))))))))
      · exact (Or.inr (Or.inr (Or.inr (Or.inr (Or.inr (Or.inr (Or.inr (Or.inr (Or.inr (Or.inr (Or.inr (Or.inl (by omega)))))))))))))))) (Fr_mono (fr_X11_reliefWithoutClaims (res := q5) eq5) (fun a j h => by
      unfold Wr_X11_reliefWithoutClaims at h
      unfold Wr_X11_byCarry
      rcases h with h | h | h | h | h | h | h | h
      · exact (Or.inl (by omega))
      · exact (Or.inr (Or.inl (by omega)))
      · exact (Or.inr (Or.inr (Or.inl (by omega))))
      · exact (Or.inr (Or.inr (Or.inr (Or.inl (by omega)))))
      · exact (Or.inr (Or.inr (Or.inr (Or.inr (Or.inr (Or.inr (Or.inl (by omega))))))))
      · exact (Or.inr (Or.inr (Or.inr (Or.inr (Or.inr (Or.inr (Or.inr (Or.inr (Or.inl (by omega))))))))))
      · exact (Or.inr (Or.inr (Or.inr (Or.inr (Or.inr (Or.inr (Or.inr (Or.inr (Or.inr (Or.inr (Or.inr (Or.inr (Or.inl (by omega))))))))))))))
      · exact (Or.inr (Or.inr (Or.inr (Or.inr (Or.inr (Or.inr (Or.inr (Or.inr (Or.inr (Or.inr (Or.inr (Or.inr (Or.inr (by omega)))))))))))))))))
    · have hF := (if_neg c2).symm.trans hF
      obtain rfl := Option.some.inj hF
      exact Fr.rf
def Wr_X11_reliefByGate (a : Nat) (j : Int) : Prop := (a = 83 ∧ j = 10) ∨ (a = 83 ∧ j = 11) ∨ (a = 83 ∧ j = 12) ∨ (a = 83 ∧ j = 13) ∨ (a = 77 ∧ j = 2) ∨ (a = 73 ∧ j = 3) ∨ (a = 46 ∧ j = 5) ∨ (a = 83 ∧ j = 9) ∨ ((47 ≤ a ∧ a ≤ 50)) ∨ ((78 ≤ a ∧ a ≤ 79)) ∨ ((81 ≤ a ∧ a ≤ 82)) ∨ ((84 ≤ a ∧ a ≤ 92))
theorem fr_X11_reliefByGate {N : Nat} {v1 : Int} {σ : Sto} {res : Int × Sto} (hF : F_X11_reliefByGate N v1 σ = some res) : Fr (Wr_X11_reliefByGate) σ res.2 := by
  unfold F_X11_reliefByGate at hF
  obtain ⟨b1, eb1, kb1, hF⟩ := asB_some hF
  obtain ⟨q2, eq2, hF⟩ := bind_some' hF
  obtain ⟨b3, eb3, kb3, hF⟩ := asB_some hF
  obtain ⟨b4, eb4, kb4, hF⟩ := asB_some hF
  obtain ⟨q5, eq5, hF⟩ := bind_some' hF
  obtain rfl := Option.some.inj hF
  exact (Fr_tr (Fr_tr Fr.rf (Fr_mono (fr_X4_fill (res := q2) eq2) (fun a j h => by
      unfold Wr_X4_fill at h
      unfold Wr_X11_reliefByGate
      rcases h with h | h | h | h
      · exact (Or.inr (Or.inr (Or.inr (Or.inr (Or.inl (by omega))))))
      · exact (Or.inr (Or.inr (Or.inr (Or.inr (Or.inr (Or.inr (Or.inr (Or.inr (Or.inr (Or.inl (by omega)))))))))))
      · exact (Or.inr (Or.inr (Or.inr (Or.inr (Or.inr (Or.inr (Or.inl (by omega))))))))
      · exact (Or.inr (Or.inr (Or.inr (Or.inr (Or.inr (Or.inr (Or.inr (Or.inr (Or.inl (by omega))))))))))))) (Fr_mono (fr_X11_reliefWithoutClaims (res := q5) eq5) (fun a j h => by
      unfold Wr_X11_reliefWithoutClaims at h
      unfold Wr_X11_reliefByGate
      rcases h with h | h | h | h | h | h | h | h
      · exact (Or.inl (by omega))
      · exact (Or.inr (Or.inl (by omega)))
      · exact (Or.inr (Or.inr (Or.inl (by omega))))
      · exact (Or.inr (Or.inr (Or.inr (Or.inl (by omega)))))
      · exact (Or.inr (Or.inr (Or.inr (Or.inr (Or.inr (Or.inl (by omega)))))))
      · exact (Or.inr (Or.inr (Or.inr (Or.inr (Or.inr (Or.inr (Or.inr (Or.inl (by omega)))))))))
      · exact (Or.inr (Or.inr (Or.inr (Or.inr (Or.inr (Or.inr (Or.inr (Or.inr (Or.inr (Or.inr (Or.inl (by omega))))))))))))
      · exact (Or.inr (Or.inr (Or.inr (Or.inr (Or.inr (Or.inr (Or.inr (Or.inr (Or.inr (Or.inr (Or.inr (by omega)))))))))))))))
def Wr_X11_byGate (a : Nat) (j : Int) : Prop := (a = 83 ∧ j = 10) ∨ (a = 83 ∧ j = 11) ∨ (a = 83 ∧ j = 12) ∨ (a = 83 ∧ j = 13) ∨ (a = 77 ∧ j = 2) ∨ (a = 73 ∧ j = 3) ∨ (a = 46 ∧ j = 5) ∨ (a = 83 ∧ j = 9) ∨ ((47 ≤ a ∧ a ≤ 50)) ∨ ((78 ≤ a ∧ a ≤ 79)) ∨ ((81 ≤ a ∧ a ≤ 82)) ∨ ((84 ≤ a ∧ a ≤ 92))
theorem fr_X11_byGate_J11 {N : Nat}    {σ : Sto} {res : Int × Sto} (hF : F_X11_byGate_J11 N   σ = some res) : Fr (Wr_X11_byGate) σ res.2 := by
  unfold F_X11_byGate_J11 at hF
  obtain rfl := Option.some.inj hF
  exact Fr.rf
theorem fr_X11_byGate {N : Nat} {v1 : Int} {σ : Sto} {res : Int × Sto} (hF : F_X11_byGate N v1 σ = some res) : Fr (Wr_X11_byGate) σ res.2 := by
  unfold F_X11_byGate at hF
  by_cases c1 : v1 < 1
  · have hF := (if_pos c1).symm.trans hF
    exact fr_X11_byGate_J11  hF
  · have hF := (if_neg c1).symm.trans hF
    by_cases c2 : v1 ≤ 100
    · have hF := (if_pos c2).symm.trans hF
      obtain ⟨q3, eq3, hF⟩ := bind_some' hF
      obtain rfl := Option.some.inj hF
      exact (Fr_tr Fr.rf (Fr_mono (fr_X11_reliefByGate (res := q3) eq3) (fun a j h => by
      unfold Wr_X11_reliefByGate at h
      unfold Wr_X11_byGate
      rcases h with h | h | h | h | h | h | h | h | h | h | h | h
      · exact (Or.inl (by omega))
      · exact (Or.inr (Or.inl (by omega)))
      · exact (Or.inr (Or.inr (Or.inl (by omega))))
      · exact (Or.inr (Or.inr (Or.inr (Or.inl (by omega)))))
      · exact (Or.inr (Or.inr (Or.inr (Or.inr (Or.inl (by omega))))))
      · exact (Or.inr (Or.inr (Or.inr (Or.inr (Or.inr (Or.inl (by omega)))))))
      · exact (Or.inr (Or.inr (Or.inr (Or.inr (Or.inr (Or.inr (Or.inl (by omega))))))))
      · exact (Or.inr (Or.inr (Or.inr (Or.inr (Or.inr (Or.inr (Or.inr (Or.inl (by omega)))))))))
      · exact (Or.inr (Or.inr (Or.inr (Or.inr (Or.inr (Or.inr (Or.inr (Or.inr (Or.inl (by omega))))))))))
      · exact (Or.inr (Or.inr (Or.inr (Or.inr (Or.inr (Or.inr (Or.inr (Or.inr (Or.inr (Or.inl (by omega)))))))))))
      · exact (Or.inr (Or.inr (Or.inr (Or.inr (Or.inr (Or.inr (Or.inr (Or.inr (Or.inr (Or.inr (Or.inl (by omega))))))))))))
      · exact (Or.inr (Or.inr (Or.inr (Or.inr (Or.inr (Or.inr (Or.inr (Or.inr (Or.inr (Or.inr (Or.inr (by omega)))))))))))))))
    · have hF := (if_neg c2).symm.trans hF
      exact fr_X11_byGate_J11  hF
