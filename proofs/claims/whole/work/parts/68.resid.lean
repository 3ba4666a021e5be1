/-! THE GRAPH OF WHAT IS LEFT, and what a route changes in it -/
section RSD
variable (n : Nat) (isL isP : Nat → Prop) (c pr f : Nat → Nat → Int)
/-- forth where there is room, back where there is relief -/
def RE (u v : Nat) : Prop := u < n ∧ v < n ∧ ((isL u ∧ isP v ∧ f u v < c u v) ∨ (isP u ∧ isL v ∧ 0 < f v u))
noncomputable def rw_ (u v : Nat) : Int := @ite _ (isL u) (Classical.propDecidable _) (pr u v) (- pr v u)
/-- k more along P, k less against it -/
noncomputable def aug (P : List Nat) (k : Int) (i j : Nat) : Int := @ite _ (nextOn P i j) (Classical.propDecidable _) (f i j + k) (@ite _ (nextOn P j i) (Classical.propDecidable _) (f i j - k) (f i j))
end RSD
theorem wk_on {E : Nat → Nat → Prop} : ∀ {P : List Nat}, Wk E P → ∀ {u v : Nat}, nextOn P u v → E u v := by
  intro P
  induction P with
  | nil => intro h; exact absurd h id
  | cons x P ih =>
    intro h u v hn
    obtain ⟨a, b, e⟩ := hn
    cases P with
    | nil =>
      have := congrArg List.length e
      simp at this
      omega
    | cons y P =>
      cases a with
      | nil => cases e; exact h.1
      | cons z a => exact ih h.2 ⟨a, b, (List.cons.inj e).2⟩
theorem rw_back {isL isP : Nat → Prop} {pr : Nat → Nat → Int} (hd : ∀ u, isL u → ¬ isP u) {u v : Nat} (h : (isL u ∧ isP v) ∨ (isP u ∧ isL v)) : rw_ isL pr u v = - rw_ isL pr v u := by
  unfold rw_
  rcases h with ⟨a, b⟩ | ⟨a, b⟩
  · have hv : ¬ isL v := fun q => hd v q b
    rw [if_pos a, if_neg hv]; omega
  · have hu : ¬ isL u := fun q => hd u q a
    rw [if_neg hu, if_pos b]
theorem res_aug {n : Nat} {isL isP : Nat → Prop} {c pr f : Nat → Nat → Int} {P : List Nat} {k : Int} (hd : ∀ u, isL u → ¬ isP u) (hP : Wk (RE n isL isP c f) P) : ∀ u v, RE n isL isP c (aug f P k) u v → RE n isL isP c f u v ∨ (nextOn P v u ∧ rw_ isL pr u v = - rw_ isL pr v u) := by
  intro u v h
  obtain ⟨h1, h2, h3⟩ := h
  have hb : (isL u ∧ isP v) ∨ (isP u ∧ isL v) := by
    rcases h3 with ⟨a, b, -⟩ | ⟨a, b, -⟩
    · exact Or.inl ⟨a, b⟩
    · exact Or.inr ⟨a, b⟩
  by_cases o1 : nextOn P u v
  · exact Or.inl (wk_on hP o1)
  · by_cases o2 : nextOn P v u
    · exact Or.inr ⟨o2, rw_back hd hb⟩
    · left
      refine ⟨h1, h2, ?_⟩
      rcases h3 with ⟨a, b, d⟩ | ⟨a, b, d⟩
      · left
        unfold aug at d
        rw [if_neg o1, if_neg o2] at d
        exact ⟨a, b, d⟩
      · right
        unfold aug at d
        rw [if_neg o2, if_neg o1] at d
        exact ⟨a, b, d⟩
/-- at the start there is no relief, and no price below nothing: the potential is 0 -/
theorem pot_start {n : Nat} {isL isP : Nat → Prop} {c pr : Nat → Nat → Int} (hp : ∀ i j, isL i → isP j → 0 ≤ pr i j) : ∀ u v, RE n isL isP c (fun _ _ => 0) u v → 0 ≤ rw_ isL pr u v + (fun _ => (0 : Int)) u - (fun _ => (0 : Int)) v := by
  intro u v h
  rcases h.2.2 with ⟨a, b, -⟩ | ⟨-, -, d⟩
  · show 0 ≤ rw_ isL pr u v + 0 - 0
    unfold rw_
    rw [if_pos a]
    have := hp u v a b
    omega
  · have d : (0 : Int) < 0 := d
    omega
