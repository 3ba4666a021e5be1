/-! A ROUTE OUT OF DISTANCES: the first by number of what keeps to the least cost and the fewest nodes -/
/-- cst, ln: the least cost and, of that, the fewest nodes of a walk to an end (ln 0: there is none) -/
def Dist (E : Nat → Nat → Prop) (w : Nat → Nat → Int) (snk : Nat → Prop) (cst : Nat → Int) (ln : Nat → Nat) : Prop :=
  (∀ v, ln v ≠ 0 → ∃ t, Wk E (v :: t) ∧ snk (lastOf (v :: t)) ∧ wc w (v :: t) = cst v ∧ (v :: t).length = ln v) ∧
  (∀ v t, Wk E (v :: t) → snk (lastOf (v :: t)) → ln v ≠ 0 ∧ (cst v < wc w (v :: t) ∨ (cst v = wc w (v :: t) ∧ ln v ≤ (v :: t).length)))
def tight (E : Nat → Nat → Prop) (w : Nat → Nat → Int) (cst : Nat → Int) (ln : Nat → Nat) (u q : Nat) : Prop := E u q ∧ ln q + 1 = ln u ∧ 1 ≤ ln q ∧ cst q + w u q = cst u
def Ext (E : Nat → Nat → Prop) (w : Nat → Nat → Int) (cst : Nat → Int) (ln : Nat → Nat) : List Nat → Prop
  | [] => False
  | [u] => ln u = 1
  | u :: v :: t => tight E w cst ln u v ∧ (∀ q, tight E w cst ln u q → v ≤ q) ∧ Ext E w cst ln (v :: t)
variable {E : Nat → Nat → Prop} {w : Nat → Nat → Int} {snk : Nat → Prop} {cst : Nat → Int} {ln : Nat → Nat}
theorem Dist.one (h : Dist E w snk cst ln) {u : Nat} (hu : ln u = 1) : cst u = 0 ∧ snk u := by
  obtain ⟨t, h1, h2, h3, h4⟩ := h.1 u (by omega)
  rw [hu] at h4
  have ht : t = [] := List.length_eq_zero_iff.mp (by simpa using h4)
  subst ht
  exact ⟨h3.symm, h2⟩
theorem Ext.walk (h : Dist E w snk cst ln) : ∀ {t : List Nat} {u : Nat}, Ext E w cst ln (u :: t) → Wk E (u :: t) ∧ snk (lastOf (u :: t)) ∧ wc w (u :: t) = cst u ∧ (u :: t).length = ln u := by
  intro t
  induction t with
  | nil =>
    intro u hx
    obtain ⟨a, b⟩ := h.one hx
    exact ⟨trivial, b, a.symm, by rw [show ln u = 1 from hx]; rfl⟩
  | cons v t ih =>
    intro u hx
    obtain ⟨⟨a, b, c, d⟩, -, e⟩ := hx
    obtain ⟨i1, i2, i3, i4⟩ := ih e
    refine ⟨⟨a, i1⟩, i2, ?_, ?_⟩
    · show w u v + wc w (v :: t) = cst u
      omega
    · show (v :: t).length + 1 = ln u
      omega
/-- what a best walk's next node keeps to -/
theorem Dist.tgt (h : Dist E w snk cst ln) {u q : Nat} {t : List Nat} (hw : Wk E (u :: q :: t)) (hs : snk (lastOf (u :: q :: t))) (hc : wc w (u :: q :: t) = cst u) (hl : (u :: q :: t).length = ln u) : tight E w cst ln u q ∧ wc w (q :: t) = cst q ∧ (q :: t).length = ln q := by
  have hs' : snk (lastOf (q :: t)) := hs
  obtain ⟨n1, n2⟩ := h.2 q t hw.2 hs'
  obtain ⟨s, r1, r2, r3, r4⟩ := h.1 q n1
  have hw2 : Wk E (u :: q :: s) := ⟨hw.1, r1⟩
  obtain ⟨-, m2⟩ := h.2 u (q :: s) hw2 r2
  have c1 : wc w (u :: q :: s) = w u q + wc w (q :: s) := rfl
  have c2 : wc w (u :: q :: t) = w u q + wc w (q :: t) := rfl
  have l1 : (u :: q :: s).length = (q :: s).length + 1 := rfl
  have l2 : (u :: q :: t).length = (q :: t).length + 1 := rfl
  have e1 : cst q = wc w (q :: t) := by
    rcases n2 with n2 | n2
    · rcases m2 with m2 | m2 <;> omega
    · exact n2.1
  have e2 : ln q = (q :: t).length := by
    rcases n2 with n2 | n2
    · omega
    · rcases m2 with m2 | m2 <;> omega
  exact ⟨⟨hw.1, by omega, by omega, by omega⟩, e1.symm, e2.symm⟩
theorem Ext.lex (h : Dist E w snk cst ln) : ∀ {t : List Nat} {u : Nat}, Ext E w cst ln (u :: t) → ∀ s, Wk E (u :: s) → snk (lastOf (u :: s)) → wc w (u :: s) = cst u → (u :: s).length = ln u → ¬ lxl s t := by
  intro t
  induction t with
  | nil =>
    intro u hx s _ _ _ hl
    rw [show ln u = 1 from hx] at hl
    have hs : s = [] := List.length_eq_zero_iff.mp (by simpa using hl)
    subst hs
    exact id
  | cons v t ih =>
    intro u hx s hw hs hc hl hlt
    cases s with
    | nil => exact hlt
    | cons q s =>
      obtain ⟨k1, k2, k3⟩ := h.tgt hw hs hc hl
      have k4 := hx.2.1 q k1
      rcases hlt with z | ⟨z1, z2⟩
      · omega
      · subst z1
        exact ih hx.2.2 s hw.2 hs k2 k3 z2
/-- the route that begins at the best source, the first by number, is the one that no other is ahead of -/
theorem Ext.best (h : Dist E w snk cst ln) {src : Nat → Prop} {t : List Nat} {u : Nat} (hu : src u) (hx : Ext E w cst ln (u :: t)) (hm : ∀ s, src s → ln s ≠ 0 → cst u < cst s ∨ (cst u = cst s ∧ (ln u < ln s ∨ (ln u = ln s ∧ u ≤ s)))) : ∀ s r, src s → Wk E (s :: r) → snk (lastOf (s :: r)) → ¬ ahead w (s :: r) (u :: t) := by
  intro s r hs hw hk ha
  obtain ⟨p1, p2, p3, p4⟩ := hx.walk h
  obtain ⟨n1, n2⟩ := h.2 s r hw hk
  have m := hm s hs n1
  rcases ha with a | ⟨a, b | ⟨b, c⟩⟩
  · rcases n2 with n2 | n2 <;> rcases m with m | m <;> omega
  · rcases n2 with n2 | n2 <;> rcases m with m | ⟨m1, m2 | m2⟩ <;> omega
  · have e1 : cst u = cst s := by rcases n2 with n2 | n2 <;> rcases m with m | m <;> omega
    have e2 : ln u = ln s := by rcases n2 with n2 | n2 <;> rcases m with m | ⟨m1, m2 | m2⟩ <;> omega
    have e3 : u ≤ s := by rcases m with m | ⟨m1, m2 | m2⟩ <;> omega
    rcases c with c | ⟨c1, c2⟩
    · omega
    · subst c1
      exact hx.lex h r hw hk (by omega) (by omega) c2
/-- where a node has a way to an end of more than one node, there is a tight one behind it -/
theorem Dist.next (h : Dist E w snk cst ln) {u : Nat} (hu : 1 < ln u) : ∃ q, tight E w cst ln u q := by
  obtain ⟨t, h1, h2, h3, h4⟩ := h.1 u (by omega)
  cases t with
  | nil =>
    have h4 : 1 = ln u := h4
    omega
  | cons q t => exact ⟨q, (h.tgt h1 h2 h3 h4).1⟩
