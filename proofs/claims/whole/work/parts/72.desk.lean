/-! THE DESK as numbers: sizes (members, periods, owns, claims), and rows: 0 gate price seed carry; 1 names 2 asks 3 rates; 4 owner 5 first 6 last 7 results; 8 9 10 11 owns; 12 13 14 claims -/
abbrev Dk : Type := (Nat × Nat × Nat × Nat) × (Nat → Int → Int)
abbrev dm (D : Dk) : Nat := D.1.1
abbrev dp (D : Dk) : Nat := D.1.2.1
abbrev dn (D : Dk) : Nat := D.1.2.2.1
abbrev dc (D : Dk) : Nat := D.1.2.2.2
def Val (D : Dk) : Prop := (dm D ≤ 8 ∧ dp D ≤ 12 ∧ dn D ≤ 24 ∧ dc D ≤ 30) ∧ ((1 ≤ D.2 0 0 ∧ D.2 0 0 ≤ 100) ∧ (0 ≤ D.2 0 1 ∧ D.2 0 1 ≤ 2) ∧ (0 ≤ D.2 0 2 ∧ D.2 0 2 ≤ 99999) ∧ (0 ≤ D.2 0 3 ∧ D.2 0 3 ≤ 1)) ∧ (∀ m : Int, 0 ≤ m → m < dm D → (0 ≤ D.2 2 m ∧ D.2 2 m ≤ 99) ∧ (0 ≤ D.2 3 m ∧ D.2 3 m ≤ 99)) ∧ (∀ p : Int, 0 ≤ p → p < dp D → (0 ≤ D.2 4 p ∧ D.2 4 p < dm D) ∧ (0 ≤ D.2 5 p ∧ D.2 5 p ≤ D.2 6 p ∧ D.2 6 p ≤ 999) ∧ (-99999 ≤ D.2 7 p ∧ D.2 7 p ≤ 99999)) ∧ (∀ k : Int, 0 ≤ k → k < dn D → (0 ≤ D.2 8 k ∧ D.2 8 k < D.2 9 k ∧ D.2 9 k < dm D) ∧ (0 ≤ D.2 10 k ∧ D.2 10 k ≤ 100) ∧ (0 ≤ D.2 11 k ∧ D.2 11 k ≤ 999)) ∧ (∀ k : Int, 0 ≤ k → k < dc D → (0 ≤ D.2 12 k ∧ D.2 12 k < dp D) ∧ (0 ≤ D.2 13 k ∧ D.2 13 k < dp D) ∧ (1 ≤ D.2 14 k ∧ D.2 14 k ≤ 99999))
theorem Val.sz {D : Dk} (V : Val D) : dm D ≤ 8 ∧ dp D ≤ 12 ∧ dn D ≤ 24 ∧ dc D ≤ 30 := V.1
theorem Val.sc {D : Dk} (V : Val D) : (1 ≤ D.2 0 0 ∧ D.2 0 0 ≤ 100) ∧ (0 ≤ D.2 0 1 ∧ D.2 0 1 ≤ 2) ∧ (0 ≤ D.2 0 2 ∧ D.2 0 2 ≤ 99999) ∧ (0 ≤ D.2 0 3 ∧ D.2 0 3 ≤ 1) := V.2.1
theorem Val.mem {D : Dk} (V : Val D) {m : Int} (h0 : 0 ≤ m) (h1 : m < dm D) : (0 ≤ D.2 2 m ∧ D.2 2 m ≤ 99) ∧ (0 ≤ D.2 3 m ∧ D.2 3 m ≤ 99) := V.2.2.1 m h0 h1
theorem Val.per {D : Dk} (V : Val D) {p : Int} (h0 : 0 ≤ p) (h1 : p < dp D) : (0 ≤ D.2 4 p ∧ D.2 4 p < dm D) ∧ (0 ≤ D.2 5 p ∧ D.2 5 p ≤ D.2 6 p ∧ D.2 6 p ≤ 999) ∧ (-99999 ≤ D.2 7 p ∧ D.2 7 p ≤ 99999) := V.2.2.2.1 p h0 h1
theorem Val.own {D : Dk} (V : Val D) {k : Int} (h0 : 0 ≤ k) (h1 : k < dn D) : (0 ≤ D.2 8 k ∧ D.2 8 k < D.2 9 k ∧ D.2 9 k < dm D) ∧ (0 ≤ D.2 10 k ∧ D.2 10 k ≤ 100) ∧ (0 ≤ D.2 11 k ∧ D.2 11 k ≤ 999) := V.2.2.2.2.1 k h0 h1
theorem Val.clm {D : Dk} (V : Val D) {k : Int} (h0 : 0 ≤ k) (h1 : k < dc D) : (0 ≤ D.2 12 k ∧ D.2 12 k < dp D) ∧ (0 ≤ D.2 13 k ∧ D.2 13 k < dp D) ∧ (1 ≤ D.2 14 k ∧ D.2 14 k ≤ 99999) := V.2.2.2.2.2 k h0 h1
/-! the class's side: a book, its parts, a ledger -/
def PtsR (σ : Sto) (t : Nat) (D : Dk) : Prop := σ.1 t 4 = dn D ∧ ∀ k : Int, 0 ≤ k → k < dn D → σ.1 (t + 1) k = D.2 8 k ∧ σ.1 (t + 2) k = D.2 9 k ∧ σ.1 (t + 3) k = D.2 10 k ∧ σ.1 (t + 4) k = D.2 11 k
def BokR (σ : Sto) (b : Nat) (D : Dk) : Prop := (σ.1 b 8 = dm D ∧ σ.1 b 9 = dp D ∧ σ.1 b 10 = D.2 0 0 ∧ σ.1 b 11 = D.2 0 1 ∧ σ.1 b 12 = D.2 0 3 ∧ σ.1 b 13 = D.2 0 2) ∧ (∀ m : Int, 0 ≤ m → m < dm D → σ.1 (b + 1) m = D.2 1 m ∧ σ.1 (b + 2) m = D.2 2 m ∧ σ.1 (b + 3) m = D.2 3 m) ∧ (∀ p : Int, 0 ≤ p → p < dp D → σ.1 (b + 4) p = D.2 4 p ∧ σ.1 (b + 5) p = D.2 5 p ∧ σ.1 (b + 6) p = D.2 6 p ∧ σ.1 (b + 7) p = D.2 7 p) ∧ PtsR σ (b + 8) D
def LedR (σ : Sto) (l : Nat) (D : Dk) : Prop := σ.1 l 3 = dc D ∧ ∀ k : Int, 0 ≤ k → k < dc D → σ.1 (l + 1) k = D.2 12 k ∧ σ.1 (l + 2) k = D.2 13 k ∧ σ.1 (l + 3) k = D.2 14 k
theorem PtsR.cg {σ σ' : Sto} {t : Nat} {D : Dk} (h : PtsR σ t D) (e : ∀ a j, t ≤ a → a ≤ t + 4 → σ'.1 a j = σ.1 a j) : PtsR σ' t D := by
  refine ⟨by rw [e t 4 (by omega) (by omega)]; exact h.1, fun k h0 h1 => ?_⟩
  rw [e (t + 1) k (by omega) (by omega), e (t + 2) k (by omega) (by omega), e (t + 3) k (by omega) (by omega), e (t + 4) k (by omega) (by omega)]
  exact h.2 k h0 h1
theorem LedR.cg {σ σ' : Sto} {t : Nat} {D : Dk} (h : LedR σ t D) (e : ∀ a j, t ≤ a → a ≤ t + 3 → σ'.1 a j = σ.1 a j) : LedR σ' t D := by
  refine ⟨by rw [e t 3 (by omega) (by omega)]; exact h.1, fun k h0 h1 => ?_⟩
  rw [e (t + 1) k (by omega) (by omega), e (t + 2) k (by omega) (by omega), e (t + 3) k (by omega) (by omega)]
  exact h.2 k h0 h1
theorem BokR.cg {σ σ' : Sto} {t : Nat} {D : Dk} (h : BokR σ t D) (e : ∀ a j, t ≤ a → a ≤ t + 12 → σ'.1 a j = σ.1 a j) : BokR σ' t D := by
  obtain ⟨h1, h2, h3, h4⟩ := h
  refine ⟨?_, fun m a0 a1 => ?_, fun p a0 a1 => ?_, h4.cg (fun a j p q => e a j (by omega) (by omega))⟩
  · rw [e t 8 (by omega) (by omega), e t 9 (by omega) (by omega), e t 10 (by omega) (by omega), e t 11 (by omega) (by omega), e t 12 (by omega) (by omega), e t 13 (by omega) (by omega)]
    exact h1
  · rw [e (t + 1) m (by omega) (by omega), e (t + 2) m (by omega) (by omega), e (t + 3) m (by omega) (by omega)]
    exact h2 m a0 a1
  · rw [e (t + 4) p (by omega) (by omega), e (t + 5) p (by omega) (by omega), e (t + 6) p (by omega) (by omega), e (t + 7) p (by omega) (by omega)]
    exact h3 p a0 a1
/-! the reference's side: the text, a bank -/
def TxM (σ : Sto) (D : Dk) : Prop := (σ.1 94 11 = dm D ∧ σ.1 94 14 = dp D ∧ σ.1 100 0 = D.2 0 0 ∧ σ.1 100 1 = D.2 0 1 ∧ σ.1 100 2 = D.2 0 2 ∧ σ.1 94 33 = D.2 0 3) ∧ (∀ m : Int, 0 ≤ m → m < dm D → σ.1 97 (3 * m) = D.2 1 m ∧ σ.1 97 (3 * m + 1) = D.2 2 m ∧ σ.1 97 (3 * m + 2) = D.2 3 m) ∧ (∀ p : Int, 0 ≤ p → p < dp D → σ.1 98 (4 * p) = D.2 4 p ∧ (if p = σ.1 94 31 then σ.1 94 32 else σ.1 98 (4 * p + 1)) = D.2 5 p ∧ σ.1 98 (4 * p + 2) = D.2 6 p)
def BkM (σ : Sto) (k0 : Int) (D : Dk) : Prop := (σ.1 101 (200 * k0) = dc D ∧ σ.1 101 (200 * k0 + 103) = dn D) ∧ (∀ k : Int, 0 ≤ k → k < dc D → σ.1 101 (200 * k0 + (1 + 3 * k)) = D.2 12 k ∧ σ.1 101 (200 * k0 + (1 + 3 * k + 1)) = D.2 13 k ∧ σ.1 101 (200 * k0 + (1 + 3 * k + 2)) = D.2 14 k) ∧ (∀ p : Int, 0 ≤ p → p < dp D → σ.1 101 (200 * k0 + (91 + p)) = D.2 7 p) ∧ (∀ k : Int, 0 ≤ k → k < dn D → σ.1 101 (200 * k0 + (104 + 4 * k)) = D.2 8 k ∧ σ.1 101 (200 * k0 + (104 + 4 * k + 1)) = D.2 9 k ∧ σ.1 101 (200 * k0 + (104 + 4 * k + 2)) = D.2 10 k ∧ σ.1 101 (200 * k0 + (104 + 4 * k + 3)) = D.2 11 k)
/-- the reference holds D: its text, its bank of now -/
def ModR (σ : Sto) (D : Dk) : Prop := TxM σ D ∧ ∃ k0 : Int, (k0 = 0 ∨ k0 = 1) ∧ σ.1 94 24 = k0 ∧ BkM σ k0 D
theorem TxM.cg {σ σ' : Sto} {D : Dk} (h : TxM σ D) (e1 : ∀ j, j = 11 ∨ j = 14 ∨ j = 31 ∨ j = 32 ∨ j = 33 → σ'.1 94 j = σ.1 94 j) (e2 : ∀ j, σ'.1 97 j = σ.1 97 j) (e3 : ∀ j, σ'.1 98 j = σ.1 98 j) (e4 : ∀ j, j < 4 → σ'.1 100 j = σ.1 100 j) : TxM σ' D := by
  unfold TxM
  simp only [e2, e3]
  rw [e1 11 (by simp), e1 14 (by simp), e1 31 (by simp), e1 32 (by simp), e1 33 (by simp), e4 0 (by decide), e4 1 (by decide), e4 2 (by decide)]
  exact h
theorem BkM.cg {σ σ' : Sto} {k0 : Int} {D : Dk} (h : BkM σ k0 D) (e : ∀ j, 200 * k0 ≤ j → j < 200 * k0 + 200 → σ'.1 101 j = σ.1 101 j) (V : Val D) : BkM σ' k0 D := by
  obtain ⟨v1, v2, v3, v4⟩ := V.1
  obtain ⟨⟨a1, a2⟩, a3, a4, a5⟩ := h
  refine ⟨⟨by rw [e _ (by omega) (by omega)]; exact a1, by rw [e _ (by omega) (by omega)]; exact a2⟩, fun k h0 h1 => ?_, fun k h0 h1 => ?_, fun k h0 h1 => ?_⟩
  · rw [e _ (by omega) (by omega), e (200 * k0 + (1 + 3 * k + 1)) (by omega) (by omega), e (200 * k0 + (1 + 3 * k + 2)) (by omega) (by omega)]
    exact a3 k h0 h1
  · rw [e _ (by omega) (by omega)]
    exact a4 k h0 h1
  · rw [e _ (by omega) (by omega), e (200 * k0 + (104 + 4 * k + 1)) (by omega) (by omega), e (200 * k0 + (104 + 4 * k + 2)) (by omega) (by omega), e (200 * k0 + (104 + 4 * k + 3)) (by omega) (by omega)]
    exact a5 k h0 h1
theorem ModR.cg {σ σ' : Sto} {D : Dk} (h : ModR σ D) (V : Val D) (e1 : ∀ j, j = 11 ∨ j = 14 ∨ j = 24 ∨ j = 31 ∨ j = 32 ∨ j = 33 → σ'.1 94 j = σ.1 94 j) (e2 : ∀ j, σ'.1 97 j = σ.1 97 j) (e3 : ∀ j, σ'.1 98 j = σ.1 98 j) (e4 : ∀ j, σ'.1 100 j = σ.1 100 j) (e5 : ∀ j, σ'.1 101 j = σ.1 101 j) : ModR σ' D := by
  obtain ⟨h1, k0, h2, h3, h4⟩ := h
  refine ⟨h1.cg (fun j hj => e1 j (by omega)) e2 e3 (fun j _ => e4 j), k0, h2, by rw [e1 24 (by simp)]; exact h3, h4.cg (fun j _ _ => e5 j) V⟩
/-! sums and bits in a loop -/
theorem loop_sum {Rt : Type} {b : Int × Int → (Int × Int → Option Rt) → Option Rt} {N m : Nat} {f : Int → Int} {fin : Int → Option Rt} (M : Int) (hN : m < N) (hM : 0 ≤ M) (hm : m ≤ 200) (hM2 : M ≤ 9900000) (hf : ∀ k : Nat, k < m → -M ≤ f k ∧ f k ≤ M) (hs : ∀ (k : Nat) (a : Int) nx, k < m → inR (a + f k) → inR a → b (a, (k : Int)) nx = nx (a + f k, (k : Int) + 1)) (he : ∀ a nx, b (a, (m : Int)) nx = fin a) : loopK b N (0, 0) = fin (sumTo f m) := by
  refine loopK_for (s := fun k => (sumTo f k, (k : Int))) m hN (fun k hk nx => ?_) (fun nx => he _ nx)
  have hb := sumTo_bd (f := f) (lo := -M) (hi := M) (n := k) (fun i hi => hf i (by omega))
  have hb1 := hf k hk
  have hk2 : (k : Int) ≤ 200 := by omega
  have q1 : M * (k : Int) ≤ M * 200 := Int.mul_le_mul_of_nonneg_left hk2 hM
  have q2 : -M * (k : Int) = -(M * (k : Int)) := Int.neg_mul _ _
  have e : ((k + 1 : Nat) : Int) = (k : Int) + 1 := by omega
  show b (sumTo f k, (k : Int)) nx = nx (sumTo f k + f k, ((k + 1 : Nat) : Int))
  rw [e]
  exact hs k _ nx hk ⟨by omega, by omega⟩ ⟨by omega, by omega⟩
def bset (c : Nat → Bool) : Nat → Int
  | 0 => 0
  | k + 1 => if c k = true then jor (bset c k) (jshl 1 (k : Int)) else bset c k
theorem bset_R (c : Nat → Bool) : ∀ k, inR (bset c k) := by
  intro k
  induction k with
  | zero => exact (isB.r (Or.inl rfl) : inR 0)
  | succ k ih =>
    show inR (if c k = true then _ else _)
    split
    · exact jor_R _ _
    · exact ih
theorem tb_bset {c : Nat → Bool} : ∀ {m : Nat}, m ≤ 32 → ∀ {i : Nat}, i < 32 → tb (bset c m) i = (decide (i < m) && c i) := by
  intro m
  induction m with
  | zero => intro _ i _; rw [show bset c 0 = 0 from rfl, tb_0]; simp
  | succ m ih =>
    intro hm i hi
    have e : bset c (m + 1) = if c m = true then jor (bset c m) (jshl 1 (m : Int)) else bset c m := rfl
    rw [e]
    by_cases h : c m = true
    · rw [if_pos h, tb_or, ih (by omega) hi, tb_sh1 (by omega) hi]
      by_cases q : i = m
      · subst q; simp [h]
      · simp [q]
        by_cases z : i < m
        · simp [z, Nat.lt_succ_of_lt z]
        · simp [z, show ¬ i < m + 1 by omega]
    · rw [if_neg h, ih (by omega) hi]
      by_cases q : i = m
      · subst q; simp [h]
      · by_cases z : i < m
        · simp [z, Nat.lt_succ_of_lt z]
        · simp [z, show ¬ i < m + 1 by omega]
theorem bset_congr {c d : Nat → Bool} : ∀ {m : Nat}, (∀ k, k < m → c k = d k) → bset c m = bset d m := by
  intro m
  induction m with
  | zero => intro _; rfl
  | succ m ih =>
    intro h
    show (if c m = true then _ else _) = (if d m = true then _ else _)
    rw [ih (fun k hk => h k (by omega)), h m (by omega)]
theorem loop_bits {Rt : Type} {b : Int × Int → (Int × Int → Option Rt) → Option Rt} {N m : Nat} {c : Nat → Bool} {fin : Int → Option Rt} (hN : m < N) (hs : ∀ (k : Nat) (a : Int) nx, k < m → inR a → b (a, (k : Int)) nx = nx (if c k = true then jor a (jshl 1 (k : Int)) else a, (k : Int) + 1)) (he : ∀ a nx, b (a, (m : Int)) nx = fin a) : loopK b N (0, 0) = fin (bset c m) := by
  refine loopK_for (s := fun k => (bset c k, (k : Int))) m hN (fun k hk nx => ?_) (fun nx => he _ nx)
  have e : ((k + 1 : Nat) : Int) = (k : Int) + 1 := by omega
  show b (bset c k, (k : Int)) nx = nx (bset c (k + 1), ((k + 1 : Nat) : Int))
  rw [e]
  exact hs k _ nx hk (bset_R c k)
theorem jor_0 {a : Int} (h : inR a) : jor a 0 = a := tb_ext (jor_R _ _) h (fun i _ => by rw [tb_or, tb_0, Bool.or_false])
/-! the first that is so; whether one is so -/
def fnd (f : Int → Bool) : Nat → Int → Int
  | 0, _ => -1
  | n + 1, k => if f k = true then k else fnd f n (k + 1)
def anyB (f : Int → Bool) : Nat → Bool
  | 0 => false
  | k + 1 => anyB f k || f k
theorem anyB_iff {f : Int → Bool} : ∀ {n : Nat}, anyB f n = true ↔ ∃ k : Nat, k < n ∧ f k = true := by
  intro n
  induction n with
  | zero =>
    constructor
    · intro h; cases h
    · rintro ⟨k, h, _⟩; omega
  | succ n ih =>
    show (anyB f n || f n) = true ↔ _
    rw [Bool.or_eq_true, ih]
    constructor
    · rintro (⟨k, h1, h2⟩ | h)
      · exact ⟨k, by omega, h2⟩
      · exact ⟨n, by omega, h⟩
    · rintro ⟨k, h1, h2⟩
      by_cases e : k = n
      · subst e; exact Or.inr h2
      · exact Or.inl ⟨k, by omega, h2⟩
theorem anyB_congr {f g : Int → Bool} : ∀ {n : Nat}, (∀ k : Nat, k < n → f k = g k) → anyB f n = anyB g n := by
  intro n
  induction n with
  | zero => intro _; rfl
  | succ n ih => intro h; show (anyB f n || f n) = (anyB g n || g n); rw [ih (fun k hk => h k (by omega)), h n (by omega)]
theorem fnd_congr {f g : Int → Bool} : ∀ {n : Nat} {k : Int}, (∀ j : Int, k ≤ j → j < k + n → f j = g j) → fnd f n k = fnd g n k := by
  intro n
  induction n with
  | zero => intro k _; rfl
  | succ n ih =>
    intro k h
    show (if f k = true then k else _) = (if g k = true then k else _)
    rw [h k (by omega) (by omega), ih (fun j a b => h j (by omega) (by omega))]
theorem fnd_R {f : Int → Bool} : ∀ {n : Nat} {k : Int}, 0 ≤ k → fnd f n k = -1 ∨ (k ≤ fnd f n k ∧ fnd f n k < k + n) := by
  intro n
  induction n with
  | zero => intro k _; exact Or.inl rfl
  | succ n ih =>
    intro k hk
    show (if f k = true then k else _) = -1 ∨ (k ≤ (if f k = true then k else _) ∧ (if f k = true then k else _) < _)
    split
    · exact Or.inr ⟨by omega, by omega⟩
    · rcases ih (k := k + 1) (by omega) with h | h
      · exact Or.inl h
      · exact Or.inr ⟨by omega, by omega⟩
theorem loop_find {Rt : Type} {b : Int → (Int → Option Rt) → Option Rt} {N m : Nat} {f : Int → Bool} {fin : Int → Option Rt} (hN : m < N) (hs : ∀ (k : Nat) nx, k < m → b (k : Int) nx = if f k = true then fin k else nx ((k : Int) + 1)) (he : ∀ nx, b (m : Int) nx = fin (-1)) : loopK b N 0 = fin (fnd f m 0) := by
  have key : ∀ (d k : Nat) (n : Nat), d = m - k → k ≤ m → d < n → loopK b n (k : Int) = fin (fnd f d k) := by
    intro d
    induction d with
    | zero =>
      intro k n hd hk hn
      obtain ⟨n, rfl⟩ : ∃ i, n = i + 1 := ⟨n - 1, by omega⟩
      have e : k = m := by omega
      subst e
      exact he _
    | succ d ih =>
      intro k n hd hk hn
      obtain ⟨n, rfl⟩ : ∃ i, n = i + 1 := ⟨n - 1, by omega⟩
      show b (k : Int) (loopK b n) = _
      rw [hs k _ (by omega)]
      show _ = fin (if f k = true then (k : Int) else fnd f d (k + 1))
      by_cases h : f k = true
      · rw [if_pos h, if_pos h]
      · rw [if_neg h, if_neg h]
        exact ih (k + 1) n (by omega) (by omega) (by omega)
  exact key m 0 N (by omega) (by omega) hN
theorem loop_any {Rt : Type} {b : Int → (Int → Option Rt) → Option Rt} {N m : Nat} {f : Int → Bool} {r1 r0 : Option Rt} (hN : m < N) (hs : ∀ (k : Nat) nx, k < m → b (k : Int) nx = if f k = true then r1 else nx ((k : Int) + 1)) (he : ∀ nx, b (m : Int) nx = r0) : loopK b N 0 = if anyB f m = true then r1 else r0 := by
  have key : ∀ (d k : Nat) (n : Nat), d = m - k → k ≤ m → d < n → anyB f k = false → loopK b n (k : Int) = if anyB f m = true then r1 else r0 := by
    intro d
    induction d with
    | zero =>
      intro k n hd hk hn ha
      obtain ⟨n, rfl⟩ : ∃ i, n = i + 1 := ⟨n - 1, by omega⟩
      have e : k = m := by omega
      subst e
      rw [ha]
      exact he _
    | succ d ih =>
      intro k n hd hk hn ha
      obtain ⟨n, rfl⟩ : ∃ i, n = i + 1 := ⟨n - 1, by omega⟩
      show b (k : Int) (loopK b n) = _
      rw [hs k _ (by omega)]
      by_cases h : f k = true
      · rw [if_pos h, if_pos (anyB_iff.mpr ⟨k, by omega, h⟩)]
      · rw [if_neg h]
        refine ih (k + 1) n (by omega) (by omega) (by omega) ?_
        show (anyB f k || f k) = false
        rw [ha]
        cases q : f (k : Int)
        · rfl
        · exact absurd q h
  exact key m 0 N (by omega) (by omega) hN rfl
