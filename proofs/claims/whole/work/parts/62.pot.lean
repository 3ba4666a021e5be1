/-! POTENTIALS: kept over a route that is taken -/
theorem bound_ex (f : Nat → Int) : ∀ n : Nat, ∃ K : Int, ∀ u, u < n → f u ≤ K := by
  intro n
  induction n with
  | zero => exact ⟨0, fun u h => absurd h (by omega)⟩
  | succ n ih =>
    obtain ⟨K, h⟩ := ih
    rcases Int.lt_or_le K (f n) with c | c
    · refine ⟨f n, fun u hu => ?_⟩
      rcases Nat.lt_or_ge u n with z | z
      · have := h u z; omega
      · rw [show u = n by omega]; exact Int.le_refl _
    · refine ⟨K, fun u hu => ?_⟩
      rcases Nat.lt_or_ge u n with z | z
      · exact h u z
      · rw [show u = n by omega]; exact c
/-- two nodes that follow each other on a list -/
def nextOn (P : List Nat) (u v : Nat) : Prop := ∃ a b, P = a ++ u :: v :: b
theorem pot_step {E E' : Nat → Nat → Prop} {w : Nat → Nat → Int} {π D : Nat → Int} {reach : Nat → Prop} {n : Nat} {P : List Nat} (hn : ∀ u v, E u v → u < n) (hπ : ∀ u v, E u v → 0 ≤ w u v + π u - π v) (hD : ∀ u v, E u v → reach v → reach u ∧ D u ≤ w u v + D v) (hP : ∀ u v, nextOn P u v → reach u ∧ reach v ∧ D u = w u v + D v) (hE : ∀ u v, E' u v → E u v ∨ (nextOn P v u ∧ w u v = - w v u)) : ∃ π' : Nat → Int, ∀ u v, E' u v → 0 ≤ w u v + π' u - π' v := by
  obtain ⟨K, hK⟩ := bound_ex (fun u => D u + π u) n
  refine ⟨fun v => @ite _ (reach v) (Classical.propDecidable _) (- D v) (π v - K), fun u v h => ?_⟩
  rcases hE u v h with h | ⟨h, hw⟩
  · have h1 := hπ u v h
    by_cases rv : reach v
    · obtain ⟨ru, h2⟩ := hD u v h rv
      show 0 ≤ w u v + (@ite _ (reach u) (Classical.propDecidable _) (- D u) (π u - K)) - (@ite _ (reach v) (Classical.propDecidable _) (- D v) (π v - K))
      rw [if_pos ru, if_pos rv]
      omega
    · by_cases ru : reach u
      · have h3 := hK u (hn u v h)
        show 0 ≤ w u v + (@ite _ (reach u) (Classical.propDecidable _) (- D u) (π u - K)) - (@ite _ (reach v) (Classical.propDecidable _) (- D v) (π v - K))
        rw [if_pos ru, if_neg rv]
        have h3 : D u + π u ≤ K := h3
        omega
      · show 0 ≤ w u v + (@ite _ (reach u) (Classical.propDecidable _) (- D u) (π u - K)) - (@ite _ (reach v) (Classical.propDecidable _) (- D v) (π v - K))
        rw [if_neg ru, if_neg rv]
        omega
  · obtain ⟨rv, ru, h2⟩ := hP v u h
    show 0 ≤ w u v + (@ite _ (reach u) (Classical.propDecidable _) (- D u) (π u - K)) - (@ite _ (reach v) (Classical.propDecidable _) (- D v) (π v - K))
    rw [if_pos ru, if_pos rv]
    omega
