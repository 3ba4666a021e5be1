/-! A ROUTE TAKEN: what it changes, and that what a state keeps to is kept -/
def amE (sd : Nat → Int) (c : Nat → Nat → Int) (s : St) : List Nat → Int → Int
  | u :: v :: t, k => amE sd c s (v :: t) (mn k (pas sd c s u v))
  | _, k => k
def amt (sd : Nat → Int) (c : Nat → Nat → Int) (s : St) (P : List Nat) : Int := amE sd c s P (mn (s.2 (P.headD 0)) (s.2 (lastOf P)))
def upd2 (f : Nat → Nat → Int) (i j : Nat) (x : Int) : Nat → Nat → Int := fun a b => if a = i ∧ b = j then x else f a b
def augS (sd : Nat → Int) : (Nat → Nat → Int) → List Nat → Int → Nat → Nat → Int
  | f, u :: v :: t, k => augS sd (if sd u < 0 then upd2 f u v (f u v + k) else upd2 f v u (f v u - k)) (v :: t) k
  | f, _, _ => f
def lef (s : St) (P : List Nat) (k : Int) : Nat → Int := fun u => s.2 u - (if u = P.headD 0 then k else 0) - (if u = lastOf P then k else 0)
def stp (sd : Nat → Int) (c : Nat → Nat → Int) (s : St) (P : List Nat) : St := (augS sd s.1 P (amt sd c s P), lef s P (amt sd c s P))
section STEP
variable {n : Nat} {sd : Nat → Int} {c pr : Nat → Nat → Int} {s : St}
theorem amE_le : ∀ {P : List Nat} {k : Int}, amE sd c s P k ≤ k := by
  intro P
  induction P with
  | nil => intro k; exact Int.le_refl _
  | cons u P ih =>
    intro k
    cases P with
    | nil => exact Int.le_refl _
    | cons v t =>
      have a := ih (k := mn k (pas sd c s u v))
      have b := mn_le (a := k) (b := pas sd c s u v)
      show amE sd c s (v :: t) _ ≤ k
      omega
theorem amE_on : ∀ {P : List Nat} {k : Int} {u v : Nat}, nextOn P u v → amE sd c s P k ≤ pas sd c s u v := by
  intro P
  induction P with
  | nil => rintro k u v ⟨a, b, e⟩; cases a <;> cases e
  | cons x P ih =>
    rintro k u v ⟨a, b, e⟩
    cases P with
    | nil => cases a with
      | nil => cases e
      | cons y a => cases a <;> cases e
    | cons y t =>
      cases a with
      | nil =>
        injection e with e1 e2
        injection e2 with e2 e3
        subst e1; subst e2
        have a := amE_le (sd := sd) (c := c) (s := s) (P := y :: t) (k := mn k (pas sd c s x y))
        have b := mn_le (a := k) (b := pas sd c s x y)
        show amE sd c s (y :: t) _ ≤ _
        omega
      | cons z a =>
        injection e with e1 e2
        exact ih (k := mn k (pas sd c s x y)) ⟨a, b, e2⟩
theorem amE_pos : ∀ {P : List Nat} {k : Int}, 0 < k → Wk (GE n sd c s.1) P → 0 < amE sd c s P k := by
  intro P
  induction P with
  | nil => intro k _ h; exact absurd h id
  | cons u P ih =>
    intro k hk h
    cases P with
    | nil => exact hk
    | cons v t =>
      have a := (GE_pas (s := s) h.1.1 h.1.2.1).mp h.1
      have b := mn_le (a := k) (b := pas sd c s u v)
      exact ih (k := mn k (pas sd c s u v)) (by omega) h.2
theorem onC_nn : ∀ {P : List Nat} {i j : Nat}, 0 ≤ onC P i j := by
  intro P
  induction P with
  | nil => intro i j; exact Int.le_refl _
  | cons u P ih =>
    intro i j
    cases P with
    | nil => exact Int.le_refl _
    | cons v t =>
      have a := ih (i := i) (j := j)
      show 0 ≤ (if i = u ∧ j = v then (1 : Int) else 0) + onC (v :: t) i j
      split <;> omega
theorem onC_mem : ∀ {P : List Nat} {i j : Nat}, onC P i j ≠ 0 → i ∈ P ∧ j ∈ P := by
  intro P
  induction P with
  | nil => intro i j h; exact absurd rfl h
  | cons u P ih =>
    intro i j h
    cases P with
    | nil => exact absurd rfl h
    | cons v t =>
      have h : (if i = u ∧ j = v then (1 : Int) else 0) + onC (v :: t) i j ≠ 0 := h
      by_cases e : i = u ∧ j = v
      · rw [e.1, e.2]; simp
      · rw [if_neg e] at h
        have q := ih (i := i) (j := j) (by omega)
        exact ⟨List.mem_cons_of_mem _ q.1, List.mem_cons_of_mem _ q.2⟩
theorem onC_next : ∀ {P : List Nat} {i j : Nat}, onC P i j ≠ 0 ↔ nextOn P i j := by
  intro P
  induction P with
  | nil =>
    intro i j
    constructor
    · intro h; exact absurd rfl h
    · rintro ⟨a, b, e⟩; cases a <;> cases e
  | cons u P ih =>
    intro i j
    cases P with
    | nil =>
      constructor
      · intro h; exact absurd rfl h
      · rintro ⟨a, b, e⟩
        cases a with
        | nil => cases e
        | cons y a => cases a <;> cases e
    | cons v t =>
      have nn := onC_nn (P := v :: t) (i := i) (j := j)
      show (if i = u ∧ j = v then (1 : Int) else 0) + onC (v :: t) i j ≠ 0 ↔ _
      constructor
      · intro h
        by_cases e : i = u ∧ j = v
        · exact ⟨[], t, by rw [e.1, e.2]; rfl⟩
        · rw [if_neg e] at h
          obtain ⟨a, b, q⟩ := (ih (i := i) (j := j)).mp (by omega)
          exact ⟨u :: a, b, by rw [q]; rfl⟩
      · rintro ⟨a, b, e⟩
        cases a with
        | nil =>
          injection e with e1 e2
          injection e2 with e2 e3
          rw [if_pos ⟨e1.symm, e2.symm⟩]; omega
        | cons z a =>
          injection e with e1 e2
          have := ih.mpr ⟨a, b, e2⟩
          split <;> omega
theorem onC_one : ∀ {P : List Nat}, P.Nodup → ∀ {i j : Nat}, onC P i j + onC P j i ≤ 1 := by
  intro P
  induction P with
  | nil => intro _ i j; show (0 : Int) + 0 ≤ 1; omega
  | cons u P ih =>
    intro h i j
    cases P with
    | nil => show (0 : Int) + 0 ≤ 1; omega
    | cons v t =>
      have h2 := List.nodup_cons.mp h
      have a := ih h2.2 (i := i) (j := j)
      have nv : u ≠ v := fun z => h2.1 (by rw [z]; simp)
      show ((if i = u ∧ j = v then (1 : Int) else 0) + onC (v :: t) i j) + ((if j = u ∧ i = v then (1 : Int) else 0) + onC (v :: t) j i) ≤ 1
      have z1 : ∀ x y, x = u ∨ y = u → onC (v :: t) x y = 0 := fun x y q => Classical.byContradiction (fun z => by
        have m := onC_mem z
        rcases q with q | q
        · rw [q] at m; exact h2.1 m.1
        · rw [q] at m; exact h2.1 m.2)
      by_cases e : i = u
      · rw [z1 i j (Or.inl e), z1 j i (Or.inr e)]
        by_cases e2 : j = u ∧ i = v
        · omega
        · rw [if_neg e2]; split <;> omega
      · rw [if_neg (fun z => e z.1)]
        by_cases e2 : j = u
        · rw [z1 i j (Or.inr e2), z1 j i (Or.inl e2)]; split <;> omega
        · rw [if_neg (fun z => e2 z.1)]; omega
theorem augS_LP {f0 : Nat → Nat → Int} {k : Int} {i j : Nat} (hi : sd i < 0) (hj : 0 < sd j) : ∀ {P : List Nat} {f : Nat → Nat → Int}, Wk (GE n sd c f0) P → augS sd f P k i j = f i j + k * (onC P i j - onC P j i) := by
  intro P
  induction P with
  | nil => intro f h; exact absurd h id
  | cons u P ih =>
    intro f h
    cases P with
    | nil => show f i j = f i j + k * (0 - 0); rw [Int.sub_self, Int.mul_zero, Int.add_zero]
    | cons v t =>
      have g := (GE_iff.mp h.1).2.2
      show augS sd (if sd u < 0 then upd2 f u v (f u v + k) else upd2 f v u (f v u - k)) (v :: t) k i j = f i j + k * (((if i = u ∧ j = v then (1 : Int) else 0) + onC (v :: t) i j) - ((if j = u ∧ i = v then (1 : Int) else 0) + onC (v :: t) j i))
      rw [ih h.2]
      by_cases e : sd u < 0
      · rw [if_pos e, if_neg (c := j = u ∧ i = v) (fun z => by rw [z.1] at hj; omega)]
        unfold upd2
        by_cases q : i = u ∧ j = v
        · rw [if_pos q, if_pos q, q.1, q.2, Int.mul_sub, Int.mul_sub, Int.mul_add, Int.mul_add]; omega
        · rw [if_neg q, if_neg q, Int.zero_add, Int.zero_add]
      · rw [if_neg e, if_neg (c := i = u ∧ j = v) (fun z => by rw [z.1] at hi; omega)]
        unfold upd2
        by_cases q : i = v ∧ j = u
        · rw [if_pos q, if_pos ⟨q.2, q.1⟩, q.1, q.2, Int.mul_sub, Int.mul_sub, Int.mul_add, Int.mul_add]; omega
        · rw [if_neg q, if_neg (c := j = u ∧ i = v) (fun z => q ⟨z.2, z.1⟩), Int.zero_add, Int.zero_add]
theorem augS_no {f0 : Nat → Nat → Int} {k : Int} {i j : Nat} (hij : ¬ (sd i < 0 ∧ 0 < sd j)) : ∀ {P : List Nat} {f : Nat → Nat → Int}, Wk (GE n sd c f0) P → augS sd f P k i j = f i j := by
  intro P
  induction P with
  | nil => intro f h; exact absurd h id
  | cons u P ih =>
    intro f h
    cases P with
    | nil => rfl
    | cons v t =>
      have g := (GE_iff.mp h.1).2.2
      show augS sd (if sd u < 0 then upd2 f u v (f u v + k) else upd2 f v u (f v u - k)) (v :: t) k i j = f i j
      rw [ih h.2]
      by_cases e : sd u < 0
      · rw [if_pos e]
        unfold upd2
        rw [if_neg (fun z => by rw [z.1, z.2] at hij; omega)]
      · rw [if_neg e]
        unfold upd2
        rw [if_neg (fun z => by rw [z.1, z.2] at hij; omega)]
theorem aug_LP {f : Nat → Nat → Int} {k : Int} {P : List Nat} (hd : P.Nodup) {i j : Nat} : aug f P k i j = f i j + k * (onC P i j - onC P j i) := by
  have o := onC_one hd (i := i) (j := j)
  have n1 := onC_nn (P := P) (i := i) (j := j)
  have n2 := onC_nn (P := P) (i := j) (j := i)
  unfold aug
  by_cases h1 : nextOn P i j
  · have a := onC_next.mpr h1
    rw [if_pos h1, show onC P i j - onC P j i = 1 by omega, Int.mul_one]
  · have a : onC P i j = 0 := Classical.byContradiction (fun z => h1 (onC_next.mp z))
    rw [if_neg h1]
    by_cases h2 : nextOn P j i
    · have b := onC_next.mpr h2
      rw [if_pos h2, show onC P i j - onC P j i = -1 by omega]; omega
    · have b : onC P j i = 0 := Classical.byContradiction (fun z => h2 (onC_next.mp z))
      rw [if_neg h2, a, b, Int.sub_self, Int.mul_zero, Int.add_zero]
theorem Rt.ne {P : List Nat} (h : Rt n sd c s P) : P.headD 0 ≠ lastOf P := fun z => by
  have a := h.2.1.2.1
  have b := h.2.2.2.1
  rw [z] at a; omega
theorem amt_bd {P : List Nat} (h : Rt n sd c s P) : 0 < amt sd c s P ∧ amt sd c s P ≤ s.2 (P.headD 0) ∧ amt sd c s P ≤ s.2 (lastOf P) := by
  have b := mn_le (a := s.2 (P.headD 0)) (b := s.2 (lastOf P))
  have a := amE_le (sd := sd) (c := c) (s := s) (P := P) (k := mn (s.2 (P.headD 0)) (s.2 (lastOf P)))
  have d := h.2.1.2.2
  have e := h.2.2.2.2
  refine ⟨amE_pos (by omega) h.1, ?_, ?_⟩
  · unfold amt; omega
  · unfold amt; omega
theorem stp_ok (O : FOK n sd c pr) (S : SOK n sd c pr s) {P : List Nat} (h : Rt n sd c s P) {cst : Nat → Int} {ln : Nat → Nat} (hd : Dist (GE n sd c s.1) (GW sd pr) (snkF n sd s) cst ln) (hx : Ext (GE n sd c s.1) (GW sd pr) cst ln P) : SOK n sd c pr (stp sd c s P) := by
  have nd := hx.nodup
  have am := amt_bd h
  obtain ⟨π, hπ⟩ := S.2.2
  have lp : ∀ i j, sd i < 0 → 0 < sd j → (stp sd c s P).1 i j = aug s.1 P (amt sd c s P) i j := fun i j a b => by
    rw [aug_LP nd]; exact augS_LP a b h.1
  refine ⟨fun i j => ?_, fun i hi => ?_, ?_⟩
  · have q := S.1 i j
    by_cases e : sd i < 0 ∧ 0 < sd j
    · rw [lp i j e.1 e.2]
      unfold aug
      by_cases h1 : nextOn P i j
      · have a := amE_on (sd := sd) (c := c) (s := s) (k := mn (s.2 (P.headD 0)) (s.2 (lastOf P))) h1
        have a : amt sd c s P ≤ pas sd c s i j := a
        unfold pas at a
        rw [if_pos e] at a
        rw [if_pos h1]; omega
      · rw [if_neg h1]
        by_cases h2 : nextOn P j i
        · have a := amE_on (sd := sd) (c := c) (s := s) (k := mn (s.2 (P.headD 0)) (s.2 (lastOf P))) h2
          have a : amt sd c s P ≤ pas sd c s j i := a
          unfold pas at a
          rw [if_neg (by omega), if_pos ⟨e.2, e.1⟩] at a
          rw [if_pos h2]; omega
        · rw [if_neg h2]; exact q
    · rw [show (stp sd c s P).1 i j = s.1 i j from augS_no e h.1]; exact q
  · have q := S.2.1 i hi
    have ne := h.ne
    show 0 ≤ lef s P (amt sd c s P) i ∧ lef s P (amt sd c s P) i ≤ 99999
    unfold lef
    by_cases e1 : i = P.headD 0
    · rw [if_pos e1, if_neg (fun z => ne (e1.symm.trans z))]
      rw [← e1] at am; omega
    · rw [if_neg e1]
      by_cases e2 : i = lastOf P
      · rw [if_pos e2]
        rw [← e2] at am; omega
      · rw [if_neg e2]; omega
  · refine pot_route (E := GE n sd c s.1) (n := n) (fun u v q => q.1) hπ hd hx (fun u v q => ?_)
    have q2 : GE n sd c (aug s.1 P (amt sd c s P)) u v := by
      have q := GE_iff.mp q
      rw [GE_iff]
      rcases q.2.2 with r | r
      · rw [lp u v r.1 r.2.1] at r
        exact ⟨q.1, q.2.1, Or.inl r⟩
      · rw [lp v u r.2.1 r.1] at r
        exact ⟨q.1, q.2.1, Or.inr r⟩
    exact res_aug (fun u a b => by have a : sd u < 0 := a; have b : 0 < sd u := b; omega) h.1 u v q2
/-! the run -/
noncomputable def nxP (n : Nat) (sd : Nat → Int) (c pr : Nat → Nat → Int) (s : St) : List Nat := Classical.epsilon (Bst n sd c pr s)
theorem nxP_eq {P : List Nat} (h : Bst n sd c pr s P) : nxP n sd c pr s = P := (Classical.epsilon_spec (p := Bst n sd c pr s) ⟨P, h⟩).uniq h
noncomputable def sq (n : Nat) (sd : Nat → Int) (c pr : Nat → Nat → Int) (s : St) : Nat → St
  | 0 => s
  | k + 1 => stp sd c (sq n sd c pr s k) (nxP n sd c pr (sq n sd c pr s k))
noncomputable def tt (n : Nat) (sd : Nat → Int) (c pr : Nat → Nat → Int) (s : St) : Nat → Int
  | 0 => 0
  | k + 1 => tt n sd c pr s k + amt sd c (sq n sd c pr s k) (nxP n sd c pr (sq n sd c pr s k))
/-- m ROUTES can be taken, with what is kept -/
def RGo (n : Nat) (sd : Nat → Int) (c pr : Nat → Nat → Int) (s : St) (m : Nat) : Prop := (∀ k, k ≤ m → SOK n sd c pr (sq n sd c pr s k)) ∧ ∀ k, k < m → ∃ P, Bst n sd c pr (sq n sd c pr s k) P ∧ P.Nodup
def REnd (n : Nat) (sd : Nat → Int) (c pr : Nat → Nat → Int) (s : St) (m : Nat) : Prop := RGo n sd c pr s m ∧ ∀ Q, ¬ Rt n sd c (sq n sd c pr s m) Q
theorem REnd.uniq {m m' : Nat} (h : REnd n sd c pr s m) (h' : REnd n sd c pr s m') : m = m' := by
  rcases Nat.lt_trichotomy m m' with z | z | z
  · obtain ⟨P, hP, -⟩ := h'.1.2 m z
    exact absurd hP.1 (h.2 P)
  · exact z
  · obtain ⟨P, hP, -⟩ := h.1.2 m' z
    exact absurd hP.1 (h'.2 P)
theorem RGo.more {m : Nat} (h : RGo n sd c pr s m) {P : List Nat} (hP : Bst n sd c pr (sq n sd c pr s m) P) (hd : P.Nodup) (hs : SOK n sd c pr (stp sd c (sq n sd c pr s m) P)) : RGo n sd c pr s (m + 1) := by
  refine ⟨fun k hk => ?_, fun k hk => ?_⟩
  · by_cases e : k = m + 1
    · subst e
      show SOK n sd c pr (stp sd c (sq n sd c pr s m) (nxP n sd c pr (sq n sd c pr s m)))
      rw [nxP_eq hP]; exact hs
    · exact h.1 k (by omega)
  · by_cases e : k = m
    · subst e; exact ⟨P, hP, hd⟩
    · exact h.2 k (by omega)
theorem sN_one {n : Nat} {x : Nat} {a : Int} (hx : x < n) : sN (fun i => if i = x then a else 0) n = a := by
  have e : sN (fun i => if i = x then a else 0) n = sN (fun i => a * (if i = x then 1 else 0)) n := sN_congr (fun k _ => by
    by_cases q : k = x
    · rw [if_pos q, if_pos q, Int.mul_one]
    · rw [if_neg q, if_neg q, Int.mul_zero])
  rw [e, sN_mul, sN_ind, if_pos hx, Int.mul_one]
theorem sN_bd {g : Nat → Int} {b : Int} : ∀ {n : Nat}, (∀ k, k < n → 0 ≤ g k ∧ g k ≤ b) → 0 ≤ sN g n ∧ sN g n ≤ b * n := by
  intro n
  induction n with
  | zero => intro _; show (0 : Int) ≤ 0 ∧ (0 : Int) ≤ b * ((0 : Nat) : Int); rw [show ((0 : Nat) : Int) = 0 from rfl, Int.mul_zero]; omega
  | succ n ih =>
    intro h
    have a := ih (fun k hk => h k (by omega))
    have d := h n (by omega)
    show 0 ≤ sN g n + g n ∧ sN g n + g n ≤ b * ((n + 1 : Nat) : Int)
    rw [show ((n + 1 : Nat) : Int) = (n : Int) + 1 by omega, Int.mul_add, Int.mul_one]
    omega
theorem lef_sum {P : List Nat} (h : Rt n sd c s P) (k : Int) : sN (lef s P k) n = sN s.2 n - 2 * k := by
  have e : sN (lef s P k) n + (sN (fun i => if i = P.headD 0 then k else 0) n + sN (fun i => if i = lastOf P then k else 0) n) = sN s.2 n := by
    rw [← sN_add, ← sN_add]
    exact sN_congr (fun i _ => by unfold lef; omega)
  rw [sN_one h.2.1.1, sN_one h.2.2.1] at e
  omega
theorem tt_sum {m : Nat} (h : RGo n sd c pr s m) : ∀ k, k ≤ m → sN (sq n sd c pr s k).2 n + 2 * tt n sd c pr s k = sN s.2 n ∧ (k : Int) ≤ tt n sd c pr s k := by
  intro k
  induction k with
  | zero =>
    intro _
    show sN s.2 n + 2 * 0 = sN s.2 n ∧ ((0 : Nat) : Int) ≤ 0
    omega
  | succ k ih =>
    intro hk
    obtain ⟨a, b⟩ := ih (by omega)
    obtain ⟨P, hP, -⟩ := h.2 k (by omega)
    have e := nxP_eq hP
    have q := lef_sum hP.1 (amt sd c (sq n sd c pr s k) P)
    have am := amt_bd hP.1
    show sN (lef (sq n sd c pr s k) (nxP n sd c pr (sq n sd c pr s k)) (amt sd c (sq n sd c pr s k) (nxP n sd c pr (sq n sd c pr s k)))) n + 2 * (tt n sd c pr s k + amt sd c (sq n sd c pr s k) (nxP n sd c pr (sq n sd c pr s k))) = _ ∧ ((k + 1 : Nat) : Int) ≤ tt n sd c pr s k + amt sd c (sq n sd c pr s k) (nxP n sd c pr (sq n sd c pr s k))
    rw [e, q]
    omega
theorem goes_few (O : FOK n sd c pr) {m : Nat} (h : RGo n sd c pr s m) : m ≤ 599994 ∧ ∀ k, k ≤ m → 0 ≤ tt n sd c pr s k ∧ tt n sd c pr s k ≤ 599994 := by
  have hn := O.1
  have a : ∀ k, k ≤ m → (k : Int) ≤ tt n sd c pr s k ∧ tt n sd c pr s k ≤ 599994 := fun k hk => by
    obtain ⟨a, b⟩ := tt_sum h k hk
    have c1 := sN_bd (b := 99999) (h.1 k hk).2.1
    have c2 := sN_bd (b := 99999) (h.1 0 (by omega)).2.1
    have c2 : 0 ≤ sN s.2 n ∧ sN s.2 n ≤ 99999 * n := c2
    omega
  refine ⟨?_, fun k hk => ?_⟩
  · have := a m (Nat.le_refl _); omega
  · have := a k hk; omega
end STEP
