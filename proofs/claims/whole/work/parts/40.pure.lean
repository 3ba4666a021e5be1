/-! PURE: arithmetic without wrap, loops by their states -/
abbrev BigN (N : Nat) : Prop := 10000000000000000000000000000000000000000 ≤ N
theorem ja_eq {a b : Int} (h : inR (a + b)) : ja a b = a + b := by unfold ja; rw [← Int32.ofInt_add, t_ofI h]
theorem js_eq {a b : Int} (h : inR (a - b)) : js a b = a - b := by unfold js; rw [← Int32.ofInt_sub, t_ofI h]
theorem jm_eq {a b : Int} (h : inR (a * b)) : jm a b = a * b := by unfold jm; rw [← Int32.ofInt_mul, t_ofI h]
theorem jneg_eq {a : Int} (h : inR (-a)) : jneg a = -a := by unfold jneg; rw [← Int32.ofInt_neg, t_ofI h]
theorem jdiv_eq {a b : Int} (ha : inR a) (hb : inR b) (h0 : 0 ≤ a) (h1 : 0 < b) : jdiv a b = a / b := by
  unfold jdiv
  rw [Int32.toInt_div_of_ne_right _ _ (fun z => by have z := congrArg Int32.toInt z; rw [t_ofI hb] at z; have z : b = -1 := z; omega), t_ofI ha, t_ofI hb, Int.tdiv_eq_ediv_of_nonneg h0]
theorem jrem_eq {a b : Int} (ha : inR a) (hb : inR b) (h0 : 0 ≤ a) (h1 : 0 < b) : jrem a b = a % b := by
  have hd := jdiv_eq ha hb h0 h1
  unfold jdiv at hd
  have e0 : Int32.ofInt a / Int32.ofInt b = Int32.ofInt (a / b) := by rw [← hd, Int32.ofInt_toInt]
  have hm := Int.emod_add_mul_ediv a b
  have hl := Int.emod_lt_of_pos a h1
  have hn := Int.emod_nonneg a (by omega : b ≠ 0)
  unfold jrem
  rw [e0, ← Int32.ofInt_mul, ← Int32.ofInt_sub, show a - a / b * b = a % b by rw [Int.mul_comm]; omega]
  exact t_ofI ⟨by have := hb.1; omega, by have := hb.2; omega⟩
theorem inR_of {x : Int} (h1 : -2147483648 ≤ x) (h2 : x ≤ 2147483647) : inR x := ⟨h1, h2⟩
theorem jaN {k : Nat} (h : k < 2000000000) : ja (k : Int) 1 = ((k + 1 : Nat) : Int) := by
  rw [ja_eq ⟨by omega, by omega⟩]; omega
theorem ja0 {a : Int} (h : inR a) : ja a 0 = a := by rw [ja_eq (by rw [Int.add_zero]; exact h), Int.add_zero]
theorem upI_at {σ : Sto} {k a : Nat} {j v b : Int} : (upI σ k j v).1 a b = if a = k ∧ b = j then v else σ.1 a b := rfl
theorem upI_ne {σ : Sto} {k a : Nat} {j v b : Int} (h : ¬ (a = k ∧ b = j)) : (upI σ k j v).1 a b = σ.1 a b := if_neg h
theorem upI_2 {σ : Sto} {k : Nat} {j v : Int} : (upI σ k j v).2 = σ.2 := rfl
theorem upF_1 {σ : Sto} {k : Nat} {j v : Int} : (upF σ k j v).1 = σ.1 := rfl
theorem upF_same {σ : Sto} {k : Nat} {j v : Int} : (upF σ k j v).2 k j = v := if_pos ⟨rfl, rfl⟩
theorem upF_ne {σ : Sto} {k a : Nat} {j v b : Int} (h : ¬ (a = k ∧ b = j)) : (upF σ k j v).2 a b = σ.2 a b := if_neg h
theorem inb_in {α : Type} {i n : Int} {x : Option α} (h : 0 ≤ i ∧ i < n) : inb i n x = x := if_pos h
theorem grd_in {α : Type} {P : Prop} {d : Decidable P} {x : Option α} (h : P) : grd P d x = x := if_pos h
/-- a loop that goes through the states s 0, s 1 .. s m -/
theorem loopK_seq {S Rt : Type} {b : S → (S → Option Rt) → Option Rt} (s : Nat → S) : ∀ (m N : Nat), m < N → (∀ k, k < m → ∀ nx, b (s k) nx = nx (s (k + 1))) → loopK b N (s 0) = b (s m) (loopK b (N - m - 1)) := by
  intro m
  induction m with
  | zero =>
    intro N hN _
    obtain ⟨n, rfl⟩ : ∃ n, N = n + 1 := ⟨N - 1, by omega⟩
    rfl
  | succ m ih =>
    intro N hN h
    rw [ih N (by omega) (fun k hk nx => h k (by omega) nx), h m (by omega)]
    obtain ⟨n, hn⟩ : ∃ n, N - m - 1 = n + 1 := ⟨N - m - 2, by omega⟩
    rw [hn, show N - (m + 1) - 1 = n by omega]
    rfl
theorem loopK_for {S Rt : Type} {b : S → (S → Option Rt) → Option Rt} (s : Nat → S) (m : Nat) {N : Nat} {r : Option Rt} (hN : m < N) (h : ∀ k, k < m → ∀ nx, b (s k) nx = nx (s (k + 1))) (hx : ∀ nx, b (s m) nx = r) : loopK b N (s 0) = r := by
  rw [loopK_seq s m N hN h, hx]
/-- the sum of f 0 .. f (n - 1) -/
def sumTo (f : Int → Int) : Nat → Int
  | 0 => 0
  | n + 1 => sumTo f n + f n
theorem sumTo_congr {f g : Int → Int} : ∀ {n : Nat}, (∀ k : Nat, k < n → f k = g k) → sumTo f n = sumTo g n := by
  intro n
  induction n with
  | zero => intro _; rfl
  | succ n ih => intro h; show sumTo f n + f n = sumTo g n + g n; rw [ih (fun k hk => h k (by omega)), h n (by omega)]
theorem sumTo_bd {f : Int → Int} {lo hi : Int} : ∀ {n : Nat}, (∀ k : Nat, k < n → lo ≤ f k ∧ f k ≤ hi) → lo * n ≤ sumTo f n ∧ sumTo f n ≤ hi * n := by
  intro n
  induction n with
  | zero => intro _; exact ⟨by simp [sumTo], by simp [sumTo]⟩
  | succ n ih =>
    intro h
    have h1 := ih (fun k hk => h k (by omega))
    have h2 := h n (by omega)
    show lo * ((n + 1 : Nat) : Int) ≤ sumTo f n + f n ∧ sumTo f n + f n ≤ hi * ((n + 1 : Nat) : Int)
    rw [show ((n + 1 : Nat) : Int) = (n : Int) + 1 by omega, Int.mul_add, Int.mul_add]
    omega
