/-! WHAT A ROUTE ADDS to the sums of rows and columns -/
/-- how often j stands right behind i -/
def onC : List Nat → Nat → Nat → Int
  | u :: v :: t, i, j => (if i = u ∧ j = v then 1 else 0) + onC (v :: t) i j
  | _, _, _ => 0
/-- how often i stands there, but as the last -/
def outC : List Nat → Nat → Int
  | u :: v :: t, i => (if i = u then 1 else 0) + outC (v :: t) i
  | _, _ => 0
/-- how often j stands there, but as the first -/
def inC : List Nat → Nat → Int
  | _ :: v :: t, j => (if j = v then 1 else 0) + inC (v :: t) j
  | _, _ => 0
theorem sN_ind {v : Nat} : ∀ {n : Nat}, sN (fun j => if j = v then 1 else 0) n = if v < n then 1 else 0 := by
  intro n
  induction n with
  | zero => rfl
  | succ n ih =>
    show sN (fun j => if j = v then 1 else 0) n + (if n = v then 1 else 0) = _
    rw [ih]
    by_cases h : n = v
    · rw [if_neg (by omega), if_pos h, if_pos (by omega)]; rfl
    · by_cases z : v < n
      · rw [if_pos z, if_neg h, if_pos (by omega)]; rfl
      · rw [if_neg z, if_neg h, if_neg (by omega)]; rfl
theorem onC_row {n i : Nat} : ∀ {P : List Nat}, (∀ x ∈ P, x < n) → sN (fun j => onC P i j) n = outC P i := by
  intro P
  induction P with
  | nil => intro _; exact sN_zero
  | cons u P ih =>
    intro h
    cases P with
    | nil => exact sN_zero
    | cons v t =>
      show sN (fun j => (if i = u ∧ j = v then 1 else 0) + onC (v :: t) i j) n = (if i = u then 1 else 0) + outC (v :: t) i
      rw [sN_add (g := fun j => if i = u ∧ j = v then 1 else 0), ih (fun x hx => h x (List.mem_cons_of_mem _ hx))]
      have hv : v < n := h v (by simp)
      have e : sN (fun j => if i = u ∧ j = v then 1 else 0) n = if i = u then 1 else 0 := by
        by_cases q : i = u
        · rw [if_pos q]
          refine (sN_congr (h := fun j => if j = v then 1 else 0) (fun j _ => ?_)).trans (sN_ind.trans (if_pos hv))
          show (if i = u ∧ j = v then (1 : Int) else 0) = if j = v then 1 else 0
          by_cases z : j = v
          · rw [if_pos ⟨q, z⟩, if_pos z]
          · rw [if_neg (fun y => z y.2), if_neg z]
        · rw [if_neg q]
          refine (sN_congr (h := fun _ => 0) (fun j _ => ?_)).trans sN_zero
          exact if_neg (fun (y : i = u ∧ j = v) => q y.1)
      rw [e]
theorem onC_col {n j : Nat} : ∀ {P : List Nat}, (∀ x ∈ P, x < n) → sN (fun i => onC P i j) n = inC P j := by
  intro P
  induction P with
  | nil => intro _; exact sN_zero
  | cons u P ih =>
    intro h
    cases P with
    | nil => exact sN_zero
    | cons v t =>
      show sN (fun i => (if i = u ∧ j = v then 1 else 0) + onC (v :: t) i j) n = (if j = v then 1 else 0) + inC (v :: t) j
      rw [sN_add (g := fun i => if i = u ∧ j = v then 1 else 0), ih (fun x hx => h x (List.mem_cons_of_mem _ hx))]
      have hu : u < n := h u (by simp)
      have e : sN (fun i => if i = u ∧ j = v then 1 else 0) n = if j = v then 1 else 0 := by
        by_cases q : j = v
        · rw [if_pos q]
          refine (sN_congr (h := fun i => if i = u then 1 else 0) (fun i _ => ?_)).trans (sN_ind.trans (if_pos hu))
          show (if i = u ∧ j = v then (1 : Int) else 0) = if i = u then 1 else 0
          by_cases z : i = u
          · rw [if_pos ⟨z, q⟩, if_pos z]
          · rw [if_neg (fun y => z y.1), if_neg z]
        · rw [if_neg q]
          refine (sN_congr (h := fun _ => 0) (fun i _ => ?_)).trans sN_zero
          exact if_neg (fun (y : i = u ∧ j = v) => q y.2)
      rw [e]
/-- what goes out of a node and what comes in differ at the ends alone -/
theorem out_in {x : Nat} : ∀ {t : List Nat} {u : Nat}, outC (u :: t) x - inC (u :: t) x = (if x = u then 1 else 0) - (if x = lastOf (u :: t) then 1 else 0) := by
  intro t
  induction t with
  | nil =>
    intro u
    show (0 : Int) - 0 = (if x = u then 1 else 0) - (if x = u then 1 else 0)
    omega
  | cons v t ih =>
    intro u
    have h := ih (u := v)
    show ((if x = u then 1 else 0) + outC (v :: t) x) - ((if x = v then 1 else 0) + inC (v :: t) x) = (if x = u then 1 else 0) - (if x = lastOf (v :: t) then 1 else 0)
    omega
