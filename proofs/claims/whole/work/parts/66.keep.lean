/-! A ROUTE TAKEN KEEPS A POTENTIAL -/
theorem Dist.rch {E : Nat → Nat → Prop} {w : Nat → Nat → Int} {snk : Nat → Prop} {cst : Nat → Int} {ln : Nat → Nat} (h : Dist E w snk cst ln) {u v : Nat} (he : E u v) (hv : ln v ≠ 0) : ln u ≠ 0 ∧ cst u ≤ w u v + cst v := by
  obtain ⟨t, h1, h2, h3, h4⟩ := h.1 v hv
  obtain ⟨k1, k2⟩ := h.2 u (v :: t) ⟨he, h1⟩ h2
  have c1 : wc w (u :: v :: t) = w u v + wc w (v :: t) := rfl
  refine ⟨k1, ?_⟩
  rcases k2 with k2 | k2 <;> omega
theorem Ext.on {E : Nat → Nat → Prop} {w : Nat → Nat → Int} {cst : Nat → Int} {ln : Nat → Nat} : ∀ {P : List Nat}, Ext E w cst ln P → ∀ {u v : Nat}, nextOn P u v → tight E w cst ln u v := by
  intro P
  induction P with
  | nil =>
    intro h
    exact absurd h id
  | cons x P ih =>
    intro h u v hn
    obtain ⟨a, b, e⟩ := hn
    cases P with
    | nil =>
      have := congrArg List.length e
      simp at this
      omega
    | cons y P =>
      cases a with
      | nil =>
        cases e
        exact h.1
      | cons z a =>
        have e2 : y :: P = a ++ u :: v :: b := (List.cons.inj e).2
        exact ih h.2.2 ⟨a, b, e2⟩
theorem pot_route {E E' : Nat → Nat → Prop} {w : Nat → Nat → Int} {snk : Nat → Prop} {cst : Nat → Int} {ln : Nat → Nat} {π : Nat → Int} {n : Nat} {P : List Nat} (hn : ∀ u v, E u v → u < n) (hπ : ∀ u v, E u v → 0 ≤ w u v + π u - π v) (hd : Dist E w snk cst ln) (hx : Ext E w cst ln P) (hE : ∀ u v, E' u v → E u v ∨ (nextOn P v u ∧ w u v = - w v u)) : ∃ π' : Nat → Int, ∀ u v, E' u v → 0 ≤ w u v + π' u - π' v := by
  refine pot_step (reach := fun v => ln v ≠ 0) (D := cst) hn hπ (fun u v he hv => hd.rch he hv) (fun u v ho => ?_) hE
  obtain ⟨t1, t2, t3, t4⟩ := hx.on ho
  exact ⟨by omega, by omega, by omega⟩
