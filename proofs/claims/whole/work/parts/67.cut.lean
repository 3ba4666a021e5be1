/-! A CUT BOUNDS EVERY FLOW -/
def sN (g : Nat → Int) : Nat → Int
  | 0 => 0
  | n + 1 => sN g n + g n
theorem sN_congr {g h : Nat → Int} : ∀ {n : Nat}, (∀ k, k < n → g k = h k) → sN g n = sN h n := by
  intro n
  induction n with
  | zero => intro _; rfl
  | succ n ih => intro e; show sN g n + g n = sN h n + h n; rw [ih (fun k hk => e k (by omega)), e n (by omega)]
theorem sN_le {g h : Nat → Int} : ∀ {n : Nat}, (∀ k, k < n → g k ≤ h k) → sN g n ≤ sN h n := by
  intro n
  induction n with
  | zero => intro _; exact Int.le_refl _
  | succ n ih =>
    intro e
    have h1 := ih (fun k hk => e k (by omega))
    have h2 := e n (by omega)
    show sN g n + g n ≤ sN h n + h n
    omega
theorem sN_add {g h : Nat → Int} : ∀ {n : Nat}, sN (fun k => g k + h k) n = sN g n + sN h n := by
  intro n
  induction n with
  | zero => rfl
  | succ n ih => show sN (fun k => g k + h k) n + (g n + h n) = (sN g n + g n) + (sN h n + h n); rw [ih]; omega
theorem sN_mul {g : Nat → Int} {a : Int} : ∀ {n : Nat}, sN (fun k => a * g k) n = a * sN g n := by
  intro n
  induction n with
  | zero => show (0 : Int) = a * 0; rw [Int.mul_zero]
  | succ n ih => show sN (fun k => a * g k) n + a * g n = a * (sN g n + g n); rw [ih, Int.mul_add]
theorem sN_zero : ∀ {n : Nat}, sN (fun _ => 0) n = 0 := by
  intro n
  induction n with
  | zero => rfl
  | succ n ih => show sN (fun _ => 0) n + 0 = 0; rw [ih]; rfl
theorem sN_swap {g : Nat → Nat → Int} {m : Nat} : ∀ {n : Nat}, sN (fun i => sN (fun j => g i j) m) n = sN (fun j => sN (fun i => g i j) n) m := by
  intro n
  induction n with
  | zero => show (0 : Int) = sN (fun _ => 0) m; rw [sN_zero]
  | succ n ih =>
    show sN (fun i => sN (fun j => g i j) m) n + sN (fun j => g n j) m = sN (fun j => sN (fun i => g i j) n + g n j) m
    rw [ih, sN_add]
/-- the sum over all pairs -/
def s2 (g : Nat → Nat → Int) (n : Nat) : Int := sN (fun i => sN (fun j => g i j) n) n
theorem s2_split {n : Nat} {f c : Nat → Nat → Int} {x : Nat → Int} : s2 (fun i j => (1 - x i) * f i j + x j * f i j + x i * (1 - x j) * c i j) n = sN (fun i => (1 - x i) * sN (fun j => f i j) n) n + sN (fun j => x j * sN (fun i => f i j) n) n + s2 (fun i j => x i * (1 - x j) * c i j) n := by
  unfold s2
  have e1 : ∀ i, sN (fun j => (1 - x i) * f i j + x j * f i j + x i * (1 - x j) * c i j) n = (1 - x i) * sN (fun j => f i j) n + sN (fun j => x j * f i j) n + sN (fun j => x i * (1 - x j) * c i j) n := by
    intro i
    rw [sN_add (g := fun j => (1 - x i) * f i j + x j * f i j), sN_add (g := fun j => (1 - x i) * f i j), sN_mul]
  rw [sN_congr (fun i _ => e1 i), sN_add (g := fun i => (1 - x i) * sN (fun j => f i j) n + sN (fun j => x j * f i j) n), sN_add (g := fun i => (1 - x i) * sN (fun j => f i j) n)]
  have e2 : sN (fun i => sN (fun j => x j * f i j) n) n = sN (fun j => x j * sN (fun i => f i j) n) n := by
    rw [sN_swap (g := fun i j => x j * f i j)]
    exact sN_congr (fun j _ => sN_mul)
  rw [e2]
theorem cut_le {n : Nat} {f f' c c' : Nat → Nat → Int} {A B x : Nat → Int} (hx : ∀ i, i < n → x i = 0 ∨ x i = 1) (hf : ∀ i j, i < n → j < n → 0 ≤ f i j ∧ f i j ≤ c i j) (hc : ∀ i j, i < n → j < n → c i j ≤ c' i j) (hA : ∀ i, i < n → sN (fun j => f i j) n ≤ A i) (hB : ∀ j, j < n → sN (fun i => f i j) n ≤ B j)
    (hA' : ∀ i, i < n → x i = 0 → sN (fun j => f' i j) n = A i) (hB' : ∀ j, j < n → x j = 1 → sN (fun i => f' i j) n = B j) (h10 : ∀ i j, i < n → j < n → x i = 1 → x j = 0 → f' i j = c' i j) (h01 : ∀ i j, i < n → j < n → x i = 0 → x j = 1 → f' i j = 0) : s2 f n ≤ s2 f' n := by
  have a1 : s2 f n ≤ s2 (fun i j => (1 - x i) * f i j + x j * f i j + x i * (1 - x j) * c' i j) n := by
    refine sN_le (fun i hi => sN_le (fun j hj => ?_))
    have h1 := hf i j hi hj
    have h2 := hc i j hi hj
    show f i j ≤ (1 - x i) * f i j + x j * f i j + x i * (1 - x j) * c' i j
    rcases hx i hi with e | e <;> rcases hx j hj with d | d <;> rw [e, d] <;> omega
  have a2 : s2 f' n = s2 (fun i j => (1 - x i) * f' i j + x j * f' i j + x i * (1 - x j) * c' i j) n := by
    refine sN_congr (fun i hi => sN_congr (fun j hj => ?_))
    show f' i j = (1 - x i) * f' i j + x j * f' i j + x i * (1 - x j) * c' i j
    rcases hx i hi with e | e <;> rcases hx j hj with d | d
    · rw [e, d]; omega
    · rw [h01 i j hi hj e d, e, d]; omega
    · rw [h10 i j hi hj e d, e, d]; omega
    · rw [e, d]; omega
  rw [s2_split] at a1 a2
  have b1 : sN (fun i => (1 - x i) * sN (fun j => f i j) n) n ≤ sN (fun i => (1 - x i) * sN (fun j => f' i j) n) n := by
    refine sN_le (fun i hi => ?_)
    show (1 - x i) * sN (fun j => f i j) n ≤ (1 - x i) * sN (fun j => f' i j) n
    rcases hx i hi with e | e
    · have := hA i hi
      rw [hA' i hi e, e]
      omega
    · rw [e]; omega
  have b2 : sN (fun j => x j * sN (fun i => f i j) n) n ≤ sN (fun j => x j * sN (fun i => f' i j) n) n := by
    refine sN_le (fun j hj => ?_)
    show x j * sN (fun i => f i j) n ≤ x j * sN (fun i => f' i j) n
    rcases hx j hj with e | e
    · rw [e]; omega
    · have := hB j hj
      rw [hB' j hj e, e]
      omega
  omega
