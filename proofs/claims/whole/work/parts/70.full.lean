/-! a label that has all nodes: nothing better leads on from it, so that it needn't be tried -/
theorem tryE.full {z : Bool} {E : Nat → Nat → Prop} {w : Nat → Nat → Int} {src : Nat → Prop} {n : Nat} {π : Nat → Int} {lab : Nat → List Nat} {a b : Nat} (hπ : ∀ u v, E u v → 0 ≤ w u v + π u - π v) (hn : ∀ u v, E u v → v < n) (hf : FL z E w src n lab) (hE : E a b) (ha : lab a ≠ []) (hl : n ≤ (lab a).length) : tryE z w lab lab a b := by
  obtain ⟨h1, h2, h3, h4, h5⟩ := hf.1 a ha
  have hm : b ∈ lab a := nodup_full h4 h5 hl (hn a b hE)
  have hnb : ¬ (lab b = [] ∨ ahz z w (lab a ++ [b]) (lab b)) := fun q => (hf.new hπ hE ha q) hm
  exact Or.inl ⟨Or.inr ⟨fun q => hnb (Or.inl q), fun q => hnb (Or.inr q)⟩, rfl⟩
/-- a round that changed nothing has tried every edge at the labels as they stand -/
theorem tried_fix {z : Bool} {E : Nat → Nat → Prop} {w : Nat → Nat → Int} {lab : Nat → List Nat} (h : Tried z E w lab lab) : ∀ a b, E a b → lab a ≠ [] → lab b ≠ [] ∧ ¬ ahz z w (lab a ++ [b]) (lab b) := h
