/-! WHAT IS LEFT and what goes: rows and columns; sums in two loops -/
def Cons (n : Nat) (sd : Nat → Int) (l0 : Nat → Int) (s : St) : Prop := (∀ i, i < n → sd i < 0 → sN (fun j => s.1 i j) n + s.2 i = l0 i) ∧ ∀ j, j < n → 0 < sd j → sN (fun i => s.1 i j) n + s.2 j = l0 j
theorem sN_sub {g h : Nat → Int} : ∀ {n : Nat}, sN (fun k => g k - h k) n = sN g n - sN h n := by
  intro n
  induction n with
  | zero => rfl
  | succ n ih => show sN (fun k => g k - h k) n + (g n - h n) = (sN g n + g n) - (sN h n + h n); rw [ih]; omega
theorem sN_mem {g : Nat → Int} {j : Nat} : ∀ {n : Nat}, (∀ k, k < n → 0 ≤ g k) → j < n → g j ≤ sN g n := by
  intro n
  induction n with
  | zero => intro _ h; omega
  | succ n ih =>
    intro h hj
    show g j ≤ sN g n + g n
    have a := h n (by omega)
    by_cases e : j = n
    · subst e
      have := (sN_bd (g := g) (b := 0) (n := 0) (fun k hk => by omega)).1
      have nn : ∀ m, m ≤ j → 0 ≤ sN g m := by
        intro m
        induction m with
        | zero => intro _; exact Int.le_refl _
        | succ m ih2 => intro hm; have := ih2 (by omega); have := h m (by omega); show 0 ≤ sN g m + g m; omega
      have := nn j (Nat.le_refl _)
      omega
    · have := ih (fun k hk => h k (by omega)) (by omega)
      omega
section CONS
variable {n : Nat} {sd : Nat → Int} {c pr : Nat → Nat → Int} {s : St} {f0 : Nat → Nat → Int}
theorem augS_row {f : Nat → Nat → Int} {P : List Nat} {k : Int} (hP : Wk (GE n sd c f0) P) {i : Nat} (hi : sd i < 0) (j : Nat) : augS sd f P k i j = f i j + k * (onC P i j - onC P j i) := by
  by_cases hj : 0 < sd j
  · exact augS_LP hi hj hP
  · have a : onC P i j = 0 := Classical.byContradiction (fun z => by
      have := GE_iff.mp (wk_on hP (onC_next.mp z)); omega)
    have b : onC P j i = 0 := Classical.byContradiction (fun z => by
      have := GE_iff.mp (wk_on hP (onC_next.mp z)); omega)
    rw [augS_no (fun z => hj z.2) hP, a, b, Int.sub_self, Int.mul_zero, Int.add_zero]
theorem augS_col {f : Nat → Nat → Int} {P : List Nat} {k : Int} (hP : Wk (GE n sd c f0) P) {j : Nat} (hj : 0 < sd j) (i : Nat) : augS sd f P k i j = f i j + k * (onC P i j - onC P j i) := by
  by_cases hi : sd i < 0
  · exact augS_LP hi hj hP
  · have a : onC P i j = 0 := Classical.byContradiction (fun z => by
      have := GE_iff.mp (wk_on hP (onC_next.mp z)); omega)
    have b : onC P j i = 0 := Classical.byContradiction (fun z => by
      have := GE_iff.mp (wk_on hP (onC_next.mp z)); omega)
    rw [augS_no (fun z => hi z.1) hP, a, b, Int.sub_self, Int.mul_zero, Int.add_zero]
theorem row_sum {f : Nat → Nat → Int} {P : List Nat} {k : Int} (hP : Rt n sd c s P) {i : Nat} (hi : sd i < 0) : sN (fun j => augS sd f P k i j) n = sN (fun j => f i j) n + (if i = P.headD 0 then k else 0) := by
  have e : sN (fun j => augS sd f P k i j) n = sN (fun j => f i j + k * (onC P i j - onC P j i)) n := sN_congr (fun j _ => augS_row hP.1 hi j)
  rw [e, sN_add, sN_mul, sN_sub, onC_row hP.lt, onC_col hP.lt]
  have l := hP.2.2.2.1
  cases P with
  | nil => exact absurd hP.1 id
  | cons u t =>
    rw [out_in (x := i) (t := t) (u := u), if_neg (c := i = lastOf (u :: t)) (fun z => by rw [z] at hi; omega), Int.sub_zero]
    show _ = _ + (if i = u then k else 0)
    split
    · rw [Int.mul_one]
    · rw [Int.mul_zero]
theorem col_sum {f : Nat → Nat → Int} {P : List Nat} {k : Int} (hP : Rt n sd c s P) {j : Nat} (hj : 0 < sd j) : sN (fun i => augS sd f P k i j) n = sN (fun i => f i j) n + (if j = lastOf P then k else 0) := by
  have e : sN (fun i => augS sd f P k i j) n = sN (fun i => f i j + k * (onC P i j - onC P j i)) n := sN_congr (fun i _ => augS_col hP.1 hj i)
  rw [e, sN_add, sN_mul, sN_sub, onC_row hP.lt, onC_col hP.lt]
  have l := hP.2.1.2.1
  cases P with
  | nil => exact absurd hP.1 id
  | cons u t =>
    have o := out_in (x := j) (t := t) (u := u)
    have l : sd u < 0 := l
    rw [if_neg (c := j = u) (fun z => by rw [z] at hj; omega)] at o
    rw [show inC (u :: t) j - outC (u :: t) j = (if j = lastOf (u :: t) then 1 else 0) by omega]
    split
    · rw [Int.mul_one]
    · rw [Int.mul_zero]
theorem Cons.stp' {l0 : Nat → Int} (h : Cons n sd l0 s) {P : List Nat} (hP : Rt n sd c s P) : Cons n sd l0 (stp sd c s P) := by
  have ne := hP.ne
  have h1 := hP.2.1.2.1
  have h2 := hP.2.2.2.1
  refine ⟨fun i hi hs => ?_, fun j hj hs => ?_⟩
  · show sN (fun j => augS sd s.1 P (amt sd c s P) i j) n + lef s P (amt sd c s P) i = l0 i
    rw [row_sum hP hs]
    have := h.1 i hi hs
    unfold lef
    rw [if_neg (c := i = lastOf P) (fun z => by rw [z] at hs; omega)]
    omega
  · show sN (fun i => augS sd s.1 P (amt sd c s P) i j) n + lef s P (amt sd c s P) j = l0 j
    rw [col_sum hP hs]
    have := h.2 j hj hs
    unfold lef
    rw [if_neg (c := j = P.headD 0) (fun z => by rw [z] at hs; omega)]
    omega
theorem cons_sq {l0 : Nat → Int} {m : Nat} (h : RGo n sd c pr (fun _ _ => 0, l0) m) : ∀ k, k ≤ m → Cons n sd l0 (sq n sd c pr (fun _ _ => 0, l0) k) := by
  intro k
  induction k with
  | zero =>
    intro _
    refine ⟨fun i _ _ => ?_, fun j _ _ => ?_⟩
    · show sN (fun _ => 0) n + l0 i = l0 i
      rw [sN_zero]; omega
    · show sN (fun _ => 0) n + l0 j = l0 j
      rw [sN_zero]; omega
  | succ k ih =>
    intro hk
    obtain ⟨P, hP, -⟩ := h.2 k (by omega)
    have := (ih (by omega)).stp' hP.1
    show Cons n sd l0 (stp sd c (sq n sd c pr (fun _ _ => 0, l0) k) (nxP n sd c pr (sq n sd c pr (fun _ _ => 0, l0) k)))
    rw [nxP_eq hP]; exact this
/-- RELIEF on a LINK is no more than what was open -/
theorem f_le (O : FOK n sd c pr) (S : SOK n sd c pr s) {l0 : Nat → Int} (hl : ∀ i, i < n → l0 i ≤ 99999) (C : Cons n sd l0 s) (i j : Nat) : 0 ≤ s.1 i j ∧ s.1 i j ≤ 99999 := by
  have a := S.1 i j
  refine ⟨a.1, ?_⟩
  by_cases q : 0 < c i j
  · have o := O.2.2.2 i j q
    have r := C.1 i o.1 o.2.2.1
    have m := sN_mem (g := fun j => s.1 i j) (fun k _ => (S.1 i k).1) o.2.1
    have b := S.2.1 i o.1
    have h := hl i o.1
    have m : s.1 i j ≤ sN (fun j => s.1 i j) n := m
    omega
  · omega
theorem tt_s2 {l0 : Nat → Int} {m : Nat} (h : RGo n sd c pr (fun _ _ => 0, l0) m) : ∀ k, k ≤ m → s2 (sq n sd c pr (fun _ _ => 0, l0) k).1 n = tt n sd c pr (fun _ _ => 0, l0) k := by
  intro k
  induction k with
  | zero =>
    intro _
    show s2 (fun _ _ => 0) n = 0
    unfold s2
    have : sN (fun _ => sN (fun _ => (0 : Int)) n) n = sN (fun _ => (0 : Int)) n := sN_congr (fun _ _ => sN_zero)
    rw [this, sN_zero]
  | succ k ih =>
    intro hk
    obtain ⟨P, hP, -⟩ := h.2 k (by omega)
    have a := ih (by omega)
    show s2 (augS sd (sq n sd c pr (fun _ _ => 0, l0) k).1 (nxP n sd c pr (sq n sd c pr (fun _ _ => 0, l0) k)) _) n = tt n sd c pr (fun _ _ => 0, l0) k + amt sd c (sq n sd c pr (fun _ _ => 0, l0) k) (nxP n sd c pr (sq n sd c pr (fun _ _ => 0, l0) k))
    rw [nxP_eq hP, ← a]
    generalize amt sd c (sq n sd c pr (fun _ _ => 0, l0) k) P = A
    unfold s2
    have e : sN (fun i => sN (fun j => augS sd (sq n sd c pr (fun _ _ => 0, l0) k).1 P A i j) n) n = sN (fun i => sN (fun j => (sq n sd c pr (fun _ _ => 0, l0) k).1 i j) n + (if i = P.headD 0 then A else 0)) n := sN_congr (fun i _ => by
      by_cases q : sd i < 0
      · exact row_sum hP.1 q
      · rw [if_neg (fun z => by have := hP.1.2.1.2.1; rw [z] at q; omega), Int.add_zero]
        exact sN_congr (fun j _ => augS_no (fun z => q z.1) hP.1.1))
    rw [e, sN_add, sN_one hP.1.2.1.1]
end CONS
/-! sums in two loops, sums in one -/
theorem loop_sum2 {Rt : Type} {b : Int × Int → (Int × Int → Option Rt) → Option Rt} {bi : (Int × Int → Option Rt) → Int → Int × Int → (Int × Int → Option Rt) → Option Rt} {N n : Nat} {h : Nat → Nat → Int} {fin : Int → Option Rt} (M : Int) (hN : 100 < N) (hn : n ≤ 12) (hM : 0 ≤ M) (hh : ∀ i j, i < n → j < n → 0 ≤ h i j ∧ h i j ≤ M) (hb : ∀ (i : Nat) (a : Int) nx, i < n → b (a, (i : Int)) nx = loopK (bi nx i) N (a, 0)) (hs : ∀ (i j : Nat) (a : Int) nx nx', i < n → j < n → 0 ≤ a → a + h i j ≤ M * 145 → bi nx i (a, (j : Int)) nx' = nx' (a + h i j, (j : Int) + 1)) (hi : ∀ (i : Nat) (a : Int) nx nx', i < n → bi nx i (a, (n : Int)) nx' = nx (a, (i : Int) + 1)) (he : ∀ a nx, b (a, (n : Int)) nx = fin a) : loopK b N (0, 0) = fin (s2 h n) := by
  have sb : ∀ i, i < n → ∀ k, k ≤ n → 0 ≤ sN (h i) k ∧ sN (h i) k ≤ M * k := fun i hi k hk => sN_bd (fun j hj => hh i j hi (by omega))
  have rb : ∀ k, k ≤ n → 0 ≤ sN (fun i => sN (h i) n) k ∧ sN (fun i => sN (h i) n) k ≤ (M * n) * k := fun k hk => sN_bd (fun i hi => sb i (by omega) n (Nat.le_refl _))
  have mb : ∀ k : Nat, k ≤ n → M * (k : Int) ≤ M * 12 := fun k hk => Int.mul_le_mul_of_nonneg_left (by omega) hM
  have mm : ∀ k : Nat, k < n → (M * (n : Int)) * (k : Int) ≤ (M * 12) * 11 := fun k hk => by
    have a := mb n (Nat.le_refl _)
    have z : 0 ≤ M * (n : Int) := Int.mul_nonneg hM (by omega)
    exact Int.mul_le_mul a (by omega) (by omega) (by omega)
  refine loopK_for (s := fun k => (sN (fun i => sN (h i) n) k, (k : Int))) n (by omega) (fun i hi' nx => ?_) (fun nx => he _ nx)
  rw [hb i _ nx hi']
  have key : loopK (bi nx i) N (sN (fun i => sN (h i) n) i + sN (h i) 0, ((0 : Nat) : Int)) = nx (sN (fun i => sN (h i) n) (i + 1), ((i + 1 : Nat) : Int)) := by
    refine loopK_for (s := fun k => (sN (fun i => sN (h i) n) i + sN (h i) k, (k : Int))) n (by omega) (fun j hj nx' => ?_) (fun nx' => ?_)
    · have r1 := rb i (by omega)
      have r2 := sb i hi' j (by omega)
      have r3 := hh i j hi' hj
      have m1 := mm i (by omega)
      have m2 := mb j (by omega)
      have e : ((j + 1 : Nat) : Int) = (j : Int) + 1 := by omega
      show bi nx i (sN (fun i => sN (h i) n) i + sN (h i) j, (j : Int)) nx' = nx' (sN (fun i => sN (h i) n) i + (sN (h i) j + h i j), ((j + 1 : Nat) : Int))
      rw [hs i j _ nx nx' hi' hj (by omega) (by omega), e, Int.add_assoc]
    · show bi nx i (sN (fun i => sN (h i) n) i + sN (h i) n, (n : Int)) nx' = nx (sN (fun i => sN (h i) n) i + sN (h i) n, ((i + 1 : Nat) : Int))
      rw [hi i _ nx nx' hi', show ((i + 1 : Nat) : Int) = (i : Int) + 1 by omega]
  have e0 : sN (fun i => sN (h i) n) i + sN (h i) 0 = sN (fun i => sN (h i) n) i := by
    show _ + (0 : Int) = _
    omega
  rw [e0] at key
  exact key
