/-! A ROUND of a search, whichever side does it -/
abbrev St : Type := (Nat → Nat → Int) × (Nat → Int)
abbrev GE (n : Nat) (sd : Nat → Int) (c f : Nat → Nat → Int) : Nat → Nat → Prop := RE n (fun u => sd u < 0) (fun u => 0 < sd u) c f
noncomputable abbrev GW (sd : Nat → Int) (pr : Nat → Nat → Int) : Nat → Nat → Int := rw_ (fun u => sd u < 0) pr
theorem GW_L {sd : Nat → Int} {pr : Nat → Nat → Int} {u v : Nat} (h : sd u < 0) : GW sd pr u v = pr u v := if_pos h
theorem GW_P {sd : Nat → Int} {pr : Nat → Nat → Int} {u v : Nat} (h : ¬ sd u < 0) : GW sd pr u v = - pr v u := if_neg h
/-- what a problem keeps to -/
def FOK (n : Nat) (sd : Nat → Int) (c pr : Nat → Nat → Int) : Prop := n ≤ 12 ∧ (∀ i j, 0 ≤ pr i j ∧ pr i j ≤ 198) ∧ (∀ i j, 0 ≤ c i j ∧ c i j ≤ 200000000) ∧ ∀ i j, 0 < c i j → i < n ∧ j < n ∧ sd i < 0 ∧ 0 < sd j
/-- what a state keeps to -/
def SOK (n : Nat) (sd : Nat → Int) (c pr : Nat → Nat → Int) (s : St) : Prop := (∀ i j, 0 ≤ s.1 i j ∧ s.1 i j ≤ c i j) ∧ (∀ i, i < n → 0 ≤ s.2 i ∧ s.2 i ≤ 99999) ∧ ∃ π : Nat → Int, ∀ u v, GE n sd c s.1 u v → 0 ≤ GW sd pr u v + π u - π v
theorem GW_bd {n : Nat} {sd : Nat → Int} {c pr : Nat → Nat → Int} (h : FOK n sd c pr) (u v : Nat) : -198 ≤ GW sd pr u v ∧ GW sd pr u v ≤ 198 := by
  by_cases q : sd u < 0
  · rw [GW_L q]; have := h.2.1 u v; omega
  · rw [GW_P q]; have := h.2.1 v u; omega
theorem wc_bd {w : Nat → Nat → Int} (hw : ∀ u v, -198 ≤ w u v ∧ w u v ≤ 198) : ∀ L : List Nat, -198 * (L.length : Int) ≤ wc w L ∧ wc w L ≤ 198 * (L.length : Int) := by
  intro L
  induction L with
  | nil => exact ⟨Int.le_refl _, Int.le_refl _⟩
  | cons u L ih =>
    cases L with
    | nil => show -198 * ((1 : Nat) : Int) ≤ 0 ∧ (0 : Int) ≤ 198 * ((1 : Nat) : Int); omega
    | cons v t =>
      have a := hw u v
      show _ ≤ w u v + wc w (v :: t) ∧ w u v + wc w (v :: t) ≤ _
      rw [show (u :: v :: t).length = (v :: t).length + 1 from rfl]
      omega
theorem FL.len {z : Bool} {E : Nat → Nat → Prop} {w : Nat → Nat → Int} {src : Nat → Prop} {n : Nat} {lab : Nat → List Nat} (h : FL z E w src n lab) (v : Nat) : (lab v).length ≤ n := by
  by_cases e : lab v = []
  · rw [e]; exact Nat.zero_le _
  · have q := h.1 v e
    exact nodup_le q.2.2.2.1 q.2.2.2.2
theorem len_nz {l : List Nat} (h : l ≠ []) : l.length ≠ 0 := fun z => h (List.eq_nil_of_length_eq_zero z)
/-- within a round: from lab0, what has been tried, and whether something has moved -/
def RInv (z : Bool) (E : Nat → Nat → Prop) (w : Nat → Nat → Int) (src : Nat → Prop) (n : Nat) (lab0 lab : Nat → List Nat) (Pr : Nat → Nat → Prop) (mv : Int) : Prop :=
  FL z E w src n lab ∧ Imp z w lab0 lab ∧ (∀ a b, Pr a b → E a b → lab0 a ≠ [] → lab b ≠ [] ∧ ¬ ahz z w (lab0 a ++ [b]) (lab b)) ∧ ((mv = 0 ∧ lab = lab0) ∨ (mv = 1 ∧ ∃ b, lab b ≠ [] ∧ (lab0 b = [] ∨ ahz z w (lab b) (lab0 b))))
section RND
variable {z : Bool} {E : Nat → Nat → Prop} {w : Nat → Nat → Int} {src : Nat → Prop} {n : Nat} {lab0 lab lab' : Nat → List Nat} {Pr Pr' : Nat → Nat → Prop} {mv : Int}
theorem RInv.ini (h : FL z E w src n lab) (hp : ∀ a b, ¬ Pr a b) : RInv z E w src n lab lab Pr 0 := ⟨h, Imp.rf, fun a b q => absurd q (hp a b), Or.inl ⟨rfl, rfl⟩⟩
theorem RInv.skip {x y : Nat} (h : RInv z E w src n lab0 lab Pr mv) (hp : ∀ a b, Pr' a b → Pr a b ∨ (a = x ∧ b = y)) (he : ¬ E x y) : RInv z E w src n lab0 lab Pr' mv := by
  refine ⟨h.1, h.2.1, fun a b q e l => ?_, h.2.2.2⟩
  rcases hp a b q with q | ⟨rfl, rfl⟩
  · exact h.2.2.1 a b q e l
  · exact absurd e he
theorem RInv.go0 {π : Nat → Int} (hπ : ∀ u v, E u v → 0 ≤ w u v + π u - π v) (hn : ∀ u v, E u v → v < n) (hf0 : FL z E w src n lab0) {x y : Nat} (h : RInv z E w src n lab0 lab Pr mv) (hp : ∀ a b, Pr' a b → Pr a b ∨ (a = x ∧ b = y)) (ht : tryE z w lab lab x y) : RInv z E w src n lab0 lab Pr' mv := by
  refine ⟨h.1, h.2.1, fun a b q e l => ?_, h.2.2.2⟩
  rcases hp a b q with q | ⟨rfl, rfl⟩
  · exact h.2.2.1 a b q e l
  · exact tried_in hf0 h.1 h.2.1 ht Imp.rf l
theorem RInv.go1 {π : Nat → Int} (hπ : ∀ u v, E u v → 0 ≤ w u v + π u - π v) (hn : ∀ u v, E u v → v < n) (hf0 : FL z E w src n lab0) {x y : Nat} (h : RInv z E w src n lab0 lab Pr mv) (hp : ∀ a b, Pr' a b → Pr a b ∨ (a = x ∧ b = y)) (he : E x y) (h1 : lab x ≠ []) (h2 : lab y = [] ∨ ahz z w (lab x ++ [y]) (lab y)) : RInv z E w src n lab0 (updL lab y (lab x ++ [y])) Pr' 1 := by
  have ht : tryE z w lab (updL lab y (lab x ++ [y])) x y := Or.inr ⟨h1, h2, rfl⟩
  refine ⟨ht.fl hπ hn h.1 he, h.2.1.tr ht.imp, fun a b q e l => ?_, Or.inr ⟨rfl, y, ?_, ?_⟩⟩
  · rcases hp a b q with q | ⟨rfl, rfl⟩
    · have r := h.2.2.1 a b q e l
      exact ht.imp b _ r.1 r.2
    · exact tried_in hf0 h.1 h.2.1 ht Imp.rf l
  · rw [updL_at]; simp
  · by_cases e : lab0 y = []
    · exact Or.inl e
    · refine Or.inr ?_
      rw [updL_at]
      have q : lab y ≠ [] := (h.2.1 y (lab0 y) e (fun r => ahz_asymm r r)).1
      rcases h2 with h2 | h2
      · exact absurd h2 q
      · exact Classical.byContradiction (fun r => (h.2.1 y _ e r).2 h2)
theorem RInv.fin {r : Nat} (hf0 : FL z E w src n lab0) (hd : Dom z E w src lab0 r) (h : RInv z E w src n lab0 lab Pr mv) (hall : ∀ a b, E a b → Pr a b) : FL z E w src n lab ∧ Dom z E w src lab (r + 1) ∧ ((mv = 0 ∧ ∀ a b, E a b → lab a ≠ [] → lab b ≠ [] ∧ ¬ ahz z w (lab a ++ [b]) (lab b)) ∨ (mv = 1 ∧ ¬ n ≤ r + 1)) := by
  have t : Tried z E w lab0 lab := fun a b e l => h.2.2.1 a b (hall a b e) e l
  refine ⟨h.1, Dom.step hf0 hd h.2.1 t, ?_⟩
  rcases h.2.2.2 with ⟨h1, h2⟩ | ⟨h1, b, h2, h3⟩
  · refine Or.inl ⟨h1, ?_⟩
    rw [h2] at t ⊢
    exact t
  · exact Or.inr ⟨h1, fun q => Dom.still hd q h.1 h2 h3⟩
end RND
/-- the pairs that have been gone through -/
def PrK (sd : Nat → Int) (k m : Nat) (a b : Nat) : Prop := (sd b < 0 ∧ (b < k ∨ (b = k ∧ a < m))) ∨ (sd a < 0 ∧ (a < k ∨ (a = k ∧ b < m)))
theorem PrK_0 {sd : Nat → Int} (a b : Nat) : ¬ PrK sd 0 0 a b := fun h => by unfold PrK at h; omega
theorem PrK_next {sd : Nat → Int} {n k m : Nat} (h : n ≤ m) {a b : Nat} (ha : a < n) (hb : b < n) : PrK sd (k + 1) 0 a b → PrK sd k m a b := fun q => by unfold PrK at q ⊢; omega
/-- half of a pair done: the way from j to i (or from i to j) -/
def PrH (sd : Nat → Int) (k m : Nat) (x y : Nat) (a b : Nat) : Prop := PrK sd k m a b ∨ (a = x ∧ b = y)
theorem PrH_full {sd : Nat → Int} {k m a b : Nat} : PrK sd k (m + 1) a b → PrH sd k m m k a b ∨ (a = k ∧ b = m) := fun h => by unfold PrH PrK at *; omega
theorem PrH_full' {sd : Nat → Int} {k m a b : Nat} : PrK sd k (m + 1) a b → PrH sd k m k m a b ∨ (a = m ∧ b = k) := fun h => by unfold PrH PrK at *; omega
theorem PrK_skip {sd : Nat → Int} {k m a b : Nat} : PrK sd k (m + 1) a b → PrK sd k m a b ∨ (a = k ∧ b = m) ∨ (a = m ∧ b = k) := fun h => by unfold PrK at *; omega
theorem PrK_row {sd : Nat → Int} {k m a b : Nat} (h : ¬ sd k < 0) : PrK sd (k + 1) 0 a b → PrK sd k m a b := fun q => by
  unfold PrK at q ⊢
  rcases q with ⟨q1, q2⟩ | ⟨q1, q2⟩
  · by_cases e : b = k
    · subst e; exact absurd q1 h
    · exact Or.inl ⟨q1, by omega⟩
  · by_cases e : a = k
    · subst e; exact absurd q1 h
    · exact Or.inr ⟨q1, by omega⟩
