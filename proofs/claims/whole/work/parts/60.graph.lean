/-! WALKS in a graph with costs: lists of nodes; E u v: an edge; w u v: what it costs -/
def Wk (E : Nat → Nat → Prop) : List Nat → Prop
  | [] => False
  | [_] => True
  | u :: v :: t => E u v ∧ Wk E (v :: t)
def wc (w : Nat → Nat → Int) : List Nat → Int
  | [] => 0
  | [_] => 0
  | u :: v :: t => w u v + wc w (v :: t)
def lastOf : List Nat → Nat
  | [] => 0
  | [x] => x
  | _ :: v :: t => lastOf (v :: t)
theorem wk_split {E : Nat → Nat → Prop} {x : Nat} {b : List Nat} : ∀ {a : List Nat}, Wk E (a ++ x :: b) ↔ Wk E (a ++ [x]) ∧ Wk E (x :: b) := by
  intro a
  induction a with
  | nil => exact ⟨fun h => ⟨trivial, h⟩, fun h => h.2⟩
  | cons u a ih =>
    cases a with
    | nil => exact ⟨fun h => ⟨⟨h.1, trivial⟩, h.2⟩, fun h => ⟨h.1.1, h.2⟩⟩
    | cons v a =>
      constructor
      · intro h
        have h2 := ih.mp h.2
        exact ⟨⟨h.1, h2.1⟩, h2.2⟩
      · intro h
        exact ⟨h.1.1, ih.mpr ⟨h.1.2, h.2⟩⟩
theorem wc_split {w : Nat → Nat → Int} {x : Nat} {b : List Nat} : ∀ {a : List Nat}, wc w (a ++ x :: b) = wc w (a ++ [x]) + wc w (x :: b) := by
  intro a
  induction a with
  | nil => show wc w (x :: b) = 0 + wc w (x :: b); omega
  | cons u a ih =>
    cases a with
    | nil => show w u x + wc w (x :: b) = (w u x + 0) + wc w (x :: b); omega
    | cons v a =>
      show w u v + wc w ((v :: a) ++ x :: b) = (w u v + wc w ((v :: a) ++ [x])) + wc w (x :: b)
      rw [ih]
      omega
theorem lastOf_split {x : Nat} {b : List Nat} : ∀ {a : List Nat}, lastOf (a ++ x :: b) = lastOf (x :: b) := by
  intro a
  induction a with
  | nil => rfl
  | cons u a ih =>
    cases a with
    | nil => rfl
    | cons v a => exact ih
/-- a potential: no walk costs less than it falls -/
theorem wc_pot {E : Nat → Nat → Prop} {w : Nat → Nat → Int} {π : Nat → Int} (hπ : ∀ u v, E u v → 0 ≤ w u v + π u - π v) : ∀ {t : List Nat} {u : Nat}, Wk E (u :: t) → π (lastOf (u :: t)) - π u ≤ wc w (u :: t) := by
  intro t
  induction t with
  | nil => intro u _; show π u - π u ≤ 0; omega
  | cons v t ih =>
    intro u h
    have h1 := hπ u v h.1
    have h2 := ih h.2
    show π (lastOf (v :: t)) - π u ≤ w u v + wc w (v :: t)
    omega
theorem lastOf_snoc {x : Nat} {a : List Nat} : lastOf (a ++ [x]) = x := lastOf_split (b := [])
/-- no closed walk costs less than nothing -/
theorem wc_cycle {E : Nat → Nat → Prop} {w : Nat → Nat → Int} {π : Nat → Int} (hπ : ∀ u v, E u v → 0 ≤ w u v + π u - π v) {x : Nat} {b : List Nat} (h : Wk E (x :: (b ++ [x]))) : 0 ≤ wc w (x :: (b ++ [x])) := by
  have h1 := wc_pot hπ h
  have e : lastOf (x :: (b ++ [x])) = x := lastOf_snoc (a := x :: b)
  rw [e] at h1
  omega
/-- a list without doubles, of numbers below n, is no longer than n -/
theorem nodup_le : ∀ {n : Nat} {l : List Nat}, l.Nodup → (∀ x ∈ l, x < n) → l.length ≤ n := by
  intro n
  induction n with
  | zero =>
    intro l _ h
    cases l with
    | nil => exact Nat.le_refl 0
    | cons x l => exact absurd (h x List.mem_cons_self) (by omega)
  | succ n ih =>
    intro l hd h
    by_cases hn : n ∈ l
    · have h1 : (l.erase n).Nodup := hd.erase n
      have h2 := ih h1 (fun x hx => by
        have hx1 := (hd.mem_erase_iff).mp hx
        have := h x hx1.2
        omega)
      have h3 := List.length_erase_of_mem hn
      have h4 : 0 < l.length := List.length_pos_of_mem hn
      omega
    · have := ih hd (fun x hx => by
        have h1 := h x hx
        rcases Nat.lt_or_ge x n with z | z
        · exact z
        · exact absurd (show n ∈ l by rw [show n = x by omega]; exact hx) hn)
      omega
/-- the order of walks of one length: the first difference decides -/
def lxl : List Nat → List Nat → Prop
  | a :: s, b :: t => a < b ∨ (a = b ∧ lxl s t)
  | _, _ => False
theorem lxl_irr : ∀ {s : List Nat}, ¬ lxl s s := by
  intro s
  induction s with
  | nil => exact id
  | cons a s ih =>
    rintro (h | h)
    · omega
    · exact ih h.2
theorem lxl_tri : ∀ {s t : List Nat}, s.length = t.length → lxl s t ∨ s = t ∨ lxl t s := by
  intro s
  induction s with
  | nil =>
    intro t h
    cases t with
    | nil => exact Or.inr (Or.inl rfl)
    | cons b t => cases h
  | cons a s ih =>
    intro t h
    cases t with
    | nil => cases h
    | cons b t =>
      rcases Nat.lt_trichotomy a b with z | z | z
      · exact Or.inl (Or.inl z)
      · subst z
        rcases ih (Nat.succ.inj h) with q | q | q
        · exact Or.inl (Or.inr ⟨rfl, q⟩)
        · exact Or.inr (Or.inl (by rw [q]))
        · exact Or.inr (Or.inr (Or.inr ⟨rfl, q⟩))
      · exact Or.inr (Or.inr (Or.inl z))
theorem lxl_trans : ∀ {s t u : List Nat}, lxl s t → lxl t u → lxl s u := by
  intro s
  induction s with
  | nil => intro t u h; exact absurd h id
  | cons a s ih =>
    intro t u h1 h2
    cases t with
    | nil => exact absurd h1 id
    | cons b t =>
      cases u with
      | nil => exact absurd h2 id
      | cons c u =>
        rcases h1 with z | z <;> rcases h2 with y | y
        · exact Or.inl (by omega)
        · exact Or.inl (by omega)
        · exact Or.inl (by omega)
        · exact Or.inr ⟨by omega, ih z.2 y.2⟩
/-- the same end behind both -/
theorem lxl_app {s t c : List Nat} : lxl s t → lxl (s ++ c) (t ++ c) := by
  intro h
  induction s generalizing t with
  | nil => exact absurd h id
  | cons a s ih =>
    cases t with
    | nil => exact absurd h id
    | cons b t =>
      rcases h with z | z
      · exact Or.inl z
      · exact Or.inr ⟨z.1, ih z.2⟩
/-- which walk goes ahead: the cheaper; then the shorter; then the one that is first by its numbers -/
def ahead (w : Nat → Nat → Int) (P Q : List Nat) : Prop := wc w P < wc w Q ∨ (wc w P = wc w Q ∧ (P.length < Q.length ∨ (P.length = Q.length ∧ lxl P Q)))
theorem ahead_tri {w : Nat → Nat → Int} (P Q : List Nat) : ahead w P Q ∨ P = Q ∨ ahead w Q P := by
  rcases Int.lt_trichotomy (wc w P) (wc w Q) with z | z | z
  · exact Or.inl (Or.inl z)
  · rcases Nat.lt_trichotomy P.length Q.length with y | y | y
    · exact Or.inl (Or.inr ⟨z, Or.inl y⟩)
    · rcases lxl_tri y with x | x | x
      · exact Or.inl (Or.inr ⟨z, Or.inr ⟨y, x⟩⟩)
      · exact Or.inr (Or.inl x)
      · exact Or.inr (Or.inr (Or.inr ⟨z.symm, Or.inr ⟨y.symm, x⟩⟩))
    · exact Or.inr (Or.inr (Or.inr ⟨z.symm, Or.inl y⟩))
  · exact Or.inr (Or.inr (Or.inl z))
theorem ahead_irr {w : Nat → Nat → Int} {P : List Nat} : ¬ ahead w P P := by
  rintro (h | ⟨-, h | ⟨-, h⟩⟩)
  · omega
  · omega
  · exact lxl_irr h
theorem ahead_trans {w : Nat → Nat → Int} {P Q T : List Nat} (h1 : ahead w P Q) (h2 : ahead w Q T) : ahead w P T := by
  rcases h1 with a | ⟨a, b | ⟨b, c⟩⟩ <;> rcases h2 with d | ⟨d, e | ⟨e, f⟩⟩
  · exact Or.inl (by omega)
  · exact Or.inl (by omega)
  · exact Or.inl (by omega)
  · exact Or.inl (by omega)
  · exact Or.inr ⟨by omega, Or.inl (by omega)⟩
  · exact Or.inr ⟨by omega, Or.inl (by omega)⟩
  · exact Or.inl (by omega)
  · exact Or.inr ⟨by omega, Or.inl (by omega)⟩
  · exact Or.inr ⟨by omega, Or.inr ⟨by omega, lxl_trans c f⟩⟩
/-- two walks that nothing of S goes ahead of are one -/
theorem ahead_unique {w : Nat → Nat → Int} {S : List Nat → Prop} {P Q : List Nat} (hP : S P) (hQ : S Q) (h1 : ∀ T, S T → ¬ ahead w T P) (h2 : ∀ T, S T → ¬ ahead w T Q) : P = Q := by
  rcases ahead_tri (w := w) P Q with z | z | z
  · exact absurd z (h2 P hP)
  · exact z
  · exact absurd z (h1 Q hQ)
