/-! TOKENS: what a row of bytes says from a place on; the class reads it so -/
def cBl (x : Int) : Bool := decide (x = 10 ∨ x = 32)
def cLe (x : Int) : Bool := decide (97 ≤ x ∧ x ≤ 122)
def cDi (x : Int) : Bool := decide (48 ≤ x ∧ x ≤ 57)
def IsE (c : Int → Bool) (C : Nat → Int) (n p e : Nat) : Prop := p ≤ e ∧ e ≤ n ∧ (∀ q, p ≤ q → q < e → c (C q) = true) ∧ (e = n ∨ c (C e) = false)
theorem isE_ex (c : Int → Bool) (C : Nat → Int) (n : Nat) : ∀ (d p : Nat), n - p = d → p ≤ n → ∃ e, IsE c C n p e := by
  intro d
  induction d with
  | zero => intro p hd hp; exact ⟨p, Nat.le_refl _, hp, fun q a b => by omega, Or.inl (by omega)⟩
  | succ d ih =>
    intro p hd hp
    by_cases h : c (C p) = true
    · obtain ⟨e, h1, h2, h3, h4⟩ := ih (p + 1) (by omega) (by omega)
      refine ⟨e, by omega, h2, fun q a b => ?_, h4⟩
      by_cases z : q = p
      · subst z; exact h
      · exact h3 q (by omega) b
    · exact ⟨p, Nat.le_refl _, hp, fun q a b => by omega, Or.inr (b_ne h)⟩
/-- letters as numbers; the word that they make -/
def Lt (C : Nat → Int) (s m k : Nat) : Int := if k < m then C (s + k) - 96 else 0
def pkV (L : Nat → Int) : Nat → Int
  | 0 => 0
  | k + 1 => 32 * pkV L k + L k
def p32 : Nat → Int
  | 0 => 1
  | k + 1 => 32 * p32 k
theorem p32_pos : ∀ k, 0 < p32 k := by
  intro k
  induction k with
  | zero => decide
  | succ k ih => show 0 < 32 * p32 k; omega
theorem pkV_bd {L : Nat → Int} : ∀ {k : Nat}, (∀ i, i < k → 0 ≤ L i ∧ L i ≤ 31) → 0 ≤ pkV L k ∧ pkV L k < p32 k := by
  intro k
  induction k with
  | zero => intro _; exact ⟨Int.le_refl _, by show (0 : Int) < 1; decide⟩
  | succ k ih =>
    intro h
    have := ih (fun i hi => h i (by omega))
    have := h k (by omega)
    show 0 ≤ 32 * pkV L k + L k ∧ 32 * pkV L k + L k < 32 * p32 k
    omega
theorem pkV_inj {L M : Nat → Int} : ∀ {k : Nat}, (∀ i, i < k → 0 ≤ L i ∧ L i ≤ 31) → (∀ i, i < k → 0 ≤ M i ∧ M i ≤ 31) → pkV L k = pkV M k → ∀ i, i < k → L i = M i := by
  intro k
  induction k with
  | zero => intro _ _ _ i hi; omega
  | succ k ih =>
    intro h1 h2 he i hi
    have he : 32 * pkV L k + L k = 32 * pkV M k + M k := he
    have a := h1 k (by omega)
    have c := h2 k (by omega)
    by_cases z : i = k
    · subst z; omega
    · exact ih (fun i hi => h1 i (by omega)) (fun i hi => h2 i (by omega)) (by omega) i (by omega)
theorem pkV_congr {L M : Nat → Int} : ∀ {k : Nat}, (∀ i, i < k → L i = M i) → pkV L k = pkV M k := by
  intro k
  induction k with
  | zero => intro _; rfl
  | succ k ih => intro h; show 32 * pkV L k + L k = 32 * pkV M k + M k; rw [ih (fun i hi => h i (by omega)), h k (by omega)]
/-- a number of five bits put in below, shifted by s -/
theorem jor_mul {x l s : Nat} (hl : l < 32) (hs : s ≤ 25) (hb : x * 2 ^ (s + 5) + 2 ^ (s + 5) ≤ 2 ^ 31) : jor ((x * 2 ^ (s + 5) : Nat) : Int) (jshl (l : Int) (s : Int)) = (((2 ^ 5 * x + l) * 2 ^ s : Nat) : Int) := by
  have e0 : 2 ^ (s + 5) = 2 ^ s * 32 := by rw [Nat.pow_add]
  have lt : (2 ^ 5 * x + l) * 2 ^ s < 2 ^ 31 := by
    have h1 : (2 ^ 5 * x + l) * 2 ^ s ≤ (32 * x + 31) * 2 ^ s := Nat.mul_le_mul_right _ (by omega)
    have h2 : (32 * x + 32) * 2 ^ s = x * 2 ^ (s + 5) + 2 ^ (s + 5) := by rw [e0, Nat.add_mul, Nat.mul_comm 32 x, Nat.mul_assoc, Nat.mul_comm 32 (2 ^ s)]
    have h3 : (32 * x + 31) * 2 ^ s + 2 ^ s = (32 * x + 32) * 2 ^ s := by rw [← Nat.succ_mul]
    have h4 : 0 < 2 ^ s := Nat.pow_pos (by decide)
    omega
  refine tb_ext (jor_R _ _) ⟨by omega, by omega⟩ (fun i hi => ?_)
  rw [tb_or, tb_nat _ hi, tb_shl (by omega) hi, tb_nat _ hi, tb_nat _ (by omega), Nat.mul_comm x, Nat.mul_comm _ (2 ^ s), show 2 ^ (s + 5) * x = 2 ^ (s + 5) * x + 0 from rfl, show 2 ^ s * (2 ^ 5 * x + l) = 2 ^ s * (2 ^ 5 * x + l) + 0 from rfl, Nat.testBit_two_pow_mul_add _ (Nat.pow_pos (by decide)), Nat.testBit_two_pow_mul_add _ (Nat.pow_pos (by decide)), Nat.testBit_two_pow_mul_add _ (by omega : l < 2 ^ 5)]
  have lb : ∀ j, 5 ≤ j → l.testBit j = false := fun j hj => Nat.testBit_lt_two_pow (Nat.lt_of_lt_of_le (show l < 2 ^ 5 by omega) (Nat.pow_le_pow_right (by decide) hj))
  by_cases h1 : i < s
  · rw [if_pos (by omega), if_pos h1, decide_eq_false (by omega), Bool.false_and, Nat.zero_testBit, Bool.or_false]
  · rw [if_neg h1, decide_eq_true (by omega), Bool.true_and]
    by_cases h2 : i < s + 5
    · rw [if_pos h2, if_pos (by omega), Nat.zero_testBit, Bool.false_or]
    · rw [if_neg h2, if_neg (by omega), lb _ (by omega), Bool.or_false, show i - (s + 5) = i - s - 5 by omega]
theorem jor_32 {x l : Int} (h0 : 0 ≤ x) (h1 : x < 33554432) (l0 : 0 ≤ l) (l1 : l ≤ 31) : jor (jshl x 5) l = 32 * x + l := by
  obtain ⟨a, rfl⟩ : ∃ a : Nat, x = a := ⟨x.toNat, by omega⟩
  obtain ⟨c, rfl⟩ : ∃ c : Nat, l = c := ⟨l.toNat, by omega⟩
  have e : jshl (a : Int) 5 = ((a * 2 ^ 5 : Nat) : Int) := by
    refine tb_ext (jshl_R _ _) ⟨by omega, by omega⟩ (fun i hi => ?_)
    rw [show (5 : Int) = ((5 : Nat) : Int) from rfl, tb_shl (by decide) hi, tb_nat _ (by omega), tb_nat _ hi, Nat.mul_comm, show 2 ^ 5 * a = 2 ^ 5 * a + 0 from rfl, Nat.testBit_two_pow_mul_add _ (Nat.pow_pos (by decide))]
    by_cases h : i < 5
    · rw [if_pos h, decide_eq_false (by omega), Bool.false_and, Nat.zero_testBit]
    · rw [if_neg h, decide_eq_true (by omega), Bool.true_and]
  have e2 : jshl (c : Int) ((0 : Nat) : Int) = (c : Int) := by
    refine tb_ext (jshl_R _ _) ⟨by omega, by omega⟩ (fun i hi => ?_)
    rw [tb_shl (by decide) hi, decide_eq_true (Nat.zero_le _), Bool.true_and]; rfl
  have := jor_mul (x := a) (l := c) (s := 0) (by omega) (by omega) (by omega)
  rw [e2] at this
  rw [e, this]
  omega
/-- a row of digits, as either side counts -/
def nmC (C : Nat → Int) (s : Nat) : Nat → Int
  | 0 => 0
  | k + 1 => if nmC C s k < 1000000 then nmC C s k * 10 + C (s + k) - 48 else nmC C s k
def nmM (C : Nat → Int) (s : Nat) : Nat → Int
  | 0 => 0
  | k + 1 => if nmM C s k ≤ 99999 then 10 * nmM C s k + C (s + k) - 48 else nmM C s k
theorem nm_rel {C : Nat → Int} {s : Nat} : ∀ {k : Nat}, (∀ i, i < k → 48 ≤ C (s + i) ∧ C (s + i) ≤ 57) → (0 ≤ nmC C s k ∧ nmC C s k ≤ 9999999) ∧ (0 ≤ nmM C s k ∧ nmM C s k ≤ 999999) ∧ (nmC C s k = nmM C s k ∨ (99999 < nmC C s k ∧ 99999 < nmM C s k)) := by
  intro k
  induction k with
  | zero => intro _; exact ⟨⟨Int.le_refl _, by show (0 : Int) ≤ 9999999; decide⟩, ⟨Int.le_refl _, by show (0 : Int) ≤ 999999; decide⟩, Or.inl rfl⟩
  | succ k ih =>
    intro h
    have := ih (fun i hi => h i (by omega))
    have d := h k (by omega)
    show (0 ≤ (if nmC C s k < 1000000 then nmC C s k * 10 + C (s + k) - 48 else nmC C s k) ∧ (if nmC C s k < 1000000 then nmC C s k * 10 + C (s + k) - 48 else nmC C s k) ≤ 9999999) ∧ (0 ≤ (if nmM C s k ≤ 99999 then 10 * nmM C s k + C (s + k) - 48 else nmM C s k) ∧ (if nmM C s k ≤ 99999 then 10 * nmM C s k + C (s + k) - 48 else nmM C s k) ≤ 999999) ∧ ((if nmC C s k < 1000000 then nmC C s k * 10 + C (s + k) - 48 else nmC C s k) = (if nmM C s k ≤ 99999 then 10 * nmM C s k + C (s + k) - 48 else nmM C s k) ∨ (99999 < (if nmC C s k < 1000000 then nmC C s k * 10 + C (s + k) - 48 else nmC C s k) ∧ 99999 < (if nmM C s k ≤ 99999 then 10 * nmM C s k + C (s + k) - 48 else nmM C s k)))
    split <;> split <;> omega
/-- a token: from p, beginning at s, read up to e; its kind; its value as the class, as the reference has it -/
def TokP (C : Nat → Int) (n p s e : Nat) (k v w : Int) : Prop :=
  IsE cBl C n p s ∧ ((s = n ∧ e = s ∧ k = 0) ∨
  (s < n ∧ cLe (C s) = true ∧ IsE cLe C n s e ∧ ((6 < e - s ∧ k = 6) ∨ (e - s ≤ 6 ∧ ∃ i : Nat, i < 7 ∧ pkV (Lt C s (e - s)) 6 = lwd i ∧ k = 1 ∧ v = i ∧ w = i) ∨ (e - s ≤ 6 ∧ (∀ i : Nat, i < 7 → pkV (Lt C s (e - s)) 6 ≠ lwd i) ∧ k = 2 ∧ v = pkV (Lt C s (e - s)) 6 ∧ w = v))) ∨
  (s < n ∧ cDi (C s) = true ∧ IsE cDi C n s e ∧ k = 3 ∧ v = nmC C s (e - s) ∧ w = nmM C s (e - s)) ∨
  (s < n ∧ C s = 59 ∧ e = s + 1 ∧ k = 5) ∨
  (s < n ∧ C s = 45 ∧ s + 1 < n ∧ cDi (C (s + 1)) = true ∧ IsE cDi C n (s + 1) e ∧ k = 4 ∧ v = -nmC C (s + 1) (e - (s + 1)) ∧ w = -nmM C (s + 1) (e - (s + 1))) ∨
  (s < n ∧ cLe (C s) = false ∧ cDi (C s) = false ∧ C s ≠ 59 ∧ ¬ (C s = 45 ∧ s + 1 < n ∧ cDi (C (s + 1)) = true) ∧ e = s + 1 ∧ k = 6))
theorem tok_ex (C : Nat → Int) (n p : Nat) (hp : p ≤ n) : ∃ s e k v w, TokP C n p s e k v w := by
  obtain ⟨s, hs⟩ := isE_ex cBl C n _ p rfl hp
  by_cases h0 : s = n
  · exact ⟨s, s, 0, 0, 0, hs, Or.inl ⟨h0, rfl, rfl⟩⟩
  · have h0 : s < n := by have := hs.2.1; omega
    by_cases h1 : cLe (C s) = true
    · obtain ⟨e, he⟩ := isE_ex cLe C n _ s rfl (by omega)
      by_cases h2 : 6 < e - s
      · exact ⟨s, e, 6, 0, 0, hs, Or.inr (Or.inl ⟨h0, h1, he, Or.inl ⟨h2, rfl⟩⟩)⟩
      · by_cases h3 : ∃ i : Nat, i < 7 ∧ pkV (Lt C s (e - s)) 6 = lwd i
        · obtain ⟨i, i1, i2⟩ := h3
          exact ⟨s, e, 1, i, i, hs, Or.inr (Or.inl ⟨h0, h1, he, Or.inr (Or.inl ⟨by omega, i, i1, i2, rfl, rfl, rfl⟩)⟩)⟩
        · exact ⟨s, e, 2, _, _, hs, Or.inr (Or.inl ⟨h0, h1, he, Or.inr (Or.inr ⟨by omega, fun i i1 i2 => h3 ⟨i, i1, i2⟩, rfl, rfl, rfl⟩)⟩)⟩
    · by_cases h2 : cDi (C s) = true
      · obtain ⟨e, he⟩ := isE_ex cDi C n _ s rfl (by omega)
        exact ⟨s, e, 3, _, _, hs, Or.inr (Or.inr (Or.inl ⟨h0, h2, he, rfl, rfl, rfl⟩))⟩
      · by_cases h3 : C s = 59
        · exact ⟨s, s + 1, 5, 0, 0, hs, Or.inr (Or.inr (Or.inr (Or.inl ⟨h0, h3, rfl, rfl⟩)))⟩
        · by_cases h4 : C s = 45 ∧ s + 1 < n ∧ cDi (C (s + 1)) = true
          · obtain ⟨e, he⟩ := isE_ex cDi C n _ (s + 1) rfl (by omega)
            exact ⟨s, e, 4, _, _, hs, Or.inr (Or.inr (Or.inr (Or.inr (Or.inl ⟨h0, h4.1, h4.2.1, h4.2.2, he, rfl, rfl, rfl⟩))))⟩
          · exact ⟨s, s + 1, 6, 0, 0, hs, Or.inr (Or.inr (Or.inr (Or.inr (Or.inr ⟨h0, b_ne h1, b_ne h2, h3, h4, rfl, rfl⟩))))⟩
section TOK
variable {N : Nat} {σ : Sto} {C : Nat → Int} {n : Nat}
/-- the class's tape -/
def BX (σ : Sto) (n : Nat) (C : Nat → Int) : Prop := n ≤ 700 ∧ σ.1 1 2 = n ∧ ∀ k : Nat, k < n → σ.1 2 k = C k
theorem BX.cg {σ' : Sto} (h : BX σ n C) (e1 : σ'.1 1 2 = σ.1 1 2) (e2 : ∀ z, σ'.1 2 z = σ.1 2 z) : BX σ' n C := ⟨h.1, by rw [e1]; exact h.2.1, fun k hk => by rw [e2]; exact h.2.2 k hk⟩
theorem k_sign (B : BX σ n C) {p : Nat} (hp : σ.1 1 3 = p) : F_X8_sign N σ = some (if p < n then C p else 0) := by
  have := B.1
  unfold F_X8_sign F_X8_sign_J40
  rw [hp, if_neg (by omega), B.2.1]
  by_cases h : p < n
  · rw [if_neg (by omega), if_neg (by omega), inb_in (by omega), if_pos h, B.2.2 p h]
  · rw [if_pos (by omega), if_neg h]
theorem k_isBlank (x : Int) : F_X8_isBlank N x σ = some (if cBl x = true then 1 else 0) := by
  unfold F_X8_isBlank F_X8_isBlank_J12 cBl
  by_cases h1 : x = 10
  · rw [if_pos h1, if_pos (decide_eq_true (Or.inl h1))]
  · rw [if_neg h1]
    by_cases h2 : x = 32
    · rw [if_pos h2, if_pos (decide_eq_true (Or.inr h2))]
    · rw [if_neg h2, if_neg (fun z => (of_decide_eq_true z).elim h1 h2)]
theorem k_isLetter (x : Int) : F_X8_isLetter N x σ = some (if cLe x = true then 1 else 0) := by
  unfold F_X8_isLetter F_X8_isLetter_J16 cLe
  by_cases h1 : x < 97
  · rw [if_pos h1, if_neg (fun z => by have := of_decide_eq_true z; omega)]
  · rw [if_neg h1]
    by_cases h2 : 122 < x
    · rw [if_pos h2, if_neg (fun z => by have := of_decide_eq_true z; omega)]
    · rw [if_neg h2, if_pos (decide_eq_true (by omega))]
theorem k_isDigit (x : Int) : F_X8_isDigit N x σ = some (if cDi x = true then 1 else 0) := by
  unfold F_X8_isDigit F_X8_isDigit_J16 cDi
  by_cases h1 : x < 48
  · rw [if_pos h1, if_neg (fun z => by have := of_decide_eq_true z; omega)]
  · rw [if_neg h1]
    by_cases h2 : 57 < x
    · rw [if_pos h2, if_neg (fun z => by have := of_decide_eq_true z; omega)]
    · rw [if_neg h2, if_pos (decide_eq_true (by omega))]
theorem up33 {a b c : Int} : upI (upI σ 1 3 a) 1 3 b = upI σ 1 3 b := by
  unfold upI
  congr 1
  funext y z
  show (if y = 1 ∧ z = 3 then b else if y = 1 ∧ z = 3 then a else σ.1 y z) = if y = 1 ∧ z = 3 then b else σ.1 y z
  split <;> rfl
theorem up3e {p : Int} (h : σ.1 1 3 = p) : upI σ 1 3 p = σ := by
  unfold upI
  have : (fun y z => if y = 1 ∧ z = 3 then p else σ.1 y z) = σ.1 := by
    funext y z
    show (if y = 1 ∧ z = 3 then p else σ.1 y z) = σ.1 y z
    split
    · rename_i q; rw [q.1, q.2, h]
    · rfl
  rw [this]
theorem e_step {c : Int → Bool} {s e : Nat} (h : IsE c C n s e) {k : Nat} (hk : k < e - s) (hz : c 0 = false) : c (if s + k < n then C (s + k) else 0) = true := by
  have := h.2.1
  rw [if_pos (by omega)]
  exact h.2.2.1 _ (by omega) (by omega)
theorem e_end {c : Int → Bool} {s e : Nat} (h : IsE c C n s e) (hz : c 0 = false) : c (if e < n then C e else 0) = false := by
  rcases h.2.2.2 with q | q
  · rw [if_neg (by omega)]; exact hz
  · split
    · exact q
    · exact hz
theorem k_digits (hN : BigN N) (B : BX σ n C) {s e : Nat} (h : IsE cDi C n s e) (hs : σ.1 1 3 = s) (v1 : Int) : F_X8_readNumber_J58 N v1 σ = F_X8_readNumber_J114 N v1 (nmC C s (e - s)) (upI σ 1 3 (e : Int)) := by
  have b1 := B.1
  have he := h.2.1
  have hse := h.1
  have dg : ∀ i, i < e - s → 48 ≤ C (s + i) ∧ C (s + i) ≤ 57 := fun i hi => of_decide_eq_true (h.2.2.1 (s + i) (by omega) (by omega))
  unfold F_X8_readNumber_J58
  rw [← up3e hs]
  refine loopK_for (b := fun q nx62 => F_X8_readNumber_B62 N nx62 v1 q.1 q.2.1 q.2.2) (s := fun k => (nmC C s k, (k : Int), upI σ 1 3 ((s + k : Nat) : Int))) (e - s) (bigN hN) (fun k hk nx => ?_) (fun nx => ?_)
  · have Bk : BX (upI σ 1 3 ((s + k : Nat) : Int)) n C := B.cg (up_ix (by decide)) (fun z => up_pl (by decide))
    have st := e_step h hk (by decide)
    have nb := nm_rel (C := C) (s := s) (k := k) (fun i hi => dg i (by omega))
    have d := dg k hk
    show F_X8_readNumber_B62 N nx v1 (nmC C s k) k (upI σ 1 3 ((s + k : Nat) : Int)) = nx (if nmC C s k < 1000000 then nmC C s k * 10 + C (s + k) - 48 else nmC C s k, ((k + 1 : Nat) : Int), upI σ 1 3 ((s + (k + 1) : Nat) : Int))
    unfold F_X8_readNumber_B62 F_X8_readNumber_J98
    rw [if_neg (by omega), k_sign Bk up_same, Option.bind_some, k_isDigit, Option.bind_some, if_pos st, if_neg (by decide), Option.bind_some, up_same, up33 (c := 0), ja_1 (k := (k : Int)) (by omega) (by omega), ja_1 (by omega) (by omega), if_pos (show s + k < n by omega), show ((s + k : Nat) : Int) + 1 = ((s + (k + 1) : Nat) : Int) by omega, show ((k + 1 : Nat) : Int) = (k : Int) + 1 by omega]
    by_cases q : nmC C s k < 1000000
    · rw [if_neg (by omega), if_pos q, jm_eq ⟨by omega, by omega⟩, ja_eq ⟨by omega, by omega⟩, js_eq ⟨by omega, by omega⟩]
    · rw [if_pos (by omega), if_neg q]
  · have Bk : BX (upI σ 1 3 ((s + (e - s) : Nat) : Int)) n C := B.cg (up_ix (by decide)) (fun z => up_pl (by decide))
    have en := e_end h (by decide)
    show F_X8_readNumber_B62 N nx v1 (nmC C s (e - s)) ((e - s : Nat) : Int) (upI σ 1 3 ((s + (e - s) : Nat) : Int)) = _
    unfold F_X8_readNumber_B62
    rw [k_sign Bk up_same, Option.bind_some, k_isDigit, Option.bind_some, show s + (e - s) = e by omega, en]
    by_cases q : 700 ≤ ((e - s : Nat) : Int)
    · rw [if_pos q, up3e hs]
    · rw [if_neg q, if_pos (show (if (false : Bool) = true then (1 : Int) else 0) = 0 from rfl), up3e hs]
/-- a number's kind, then its digits -/
theorem k_num39 (hN : BigN N) (B : BX σ n C) {s e : Nat} (h : IsE cDi C n s e) (hs : σ.1 1 3 = s) (v1 t1 : Int) : F_X8_readNumber_J39 N v1 t1 σ = F_X8_readNumber_J114 N v1 (nmC C s (e - s)) (upI (if s < e then upI σ 1 4 t1 else upI (upI σ 1 4 t1) 1 4 6) 1 3 (e : Int)) := by
  have B1 : BX (upI σ 1 4 t1) n C := B.cg (up_ix (by decide)) (fun z => up_pl (by decide))
  have hs1 : (upI σ 1 4 t1).1 1 3 = s := (up_ix (by decide)).trans hs
  have B2 : BX (upI (upI σ 1 4 t1) 1 4 6) n C := B1.cg (up_ix (by decide)) (fun z => up_pl (by decide))
  have hs2 : (upI (upI σ 1 4 t1) 1 4 6).1 1 3 = s := (up_ix (by decide)).trans hs1
  unfold F_X8_readNumber_J39
  rw [k_sign B1 hs1, Option.bind_some, k_isDigit, Option.bind_some]
  by_cases q : s < e
  · have d : cDi (if s < n then C s else 0) = true := by
      have := h.2.1
      rw [if_pos (by omega)]
      exact h.2.2.1 s (Nat.le_refl _) q
    rw [d, if_neg (show ¬ (if (true : Bool) = true then (1 : Int) else 0) = 0 by decide), if_pos q, k_digits hN B1 h hs1]
  · have e1 : e = s := by have := h.1; omega
    have d : cDi (if s < n then C s else 0) = false := by
      have := e_end h (show cDi 0 = false by decide)
      rw [e1] at this
      exact this
    rw [d, if_pos (show (if (false : Bool) = true then (1 : Int) else 0) = 0 from rfl), if_neg q, k_digits hN B2 h hs2]
theorem k_numP (hN : BigN N) (B : BX σ n C) {s e : Nat} (hl : s < n) (hd : cDi (C s) = true) (h : IsE cDi C n s e) (hs : σ.1 1 3 = s) : F_X8_readNumber N σ = some (upI (upI (upI σ 1 4 3) 1 3 (e : Int)) 1 6 (nmC C s (e - s))) := by
  have d := of_decide_eq_true hd
  have q : s < e := by
    have h1 := h.1
    by_cases z : s = e
    · rcases h.2.2.2 with w | w
      · omega
      · rw [← z, hd] at w; exact absurd w (by decide)
    · omega
  unfold F_X8_readNumber
  rw [k_sign B hs, Option.bind_some, if_pos hl, if_neg (show ¬ C s = 45 by omega)]
  unfold F_X8_readNumber_J14 F_X8_readNumber_J29
  rw [if_pos (show (0 : Int) = 0 from rfl), if_pos (show (0 : Int) = 0 from rfl), k_num39 hN B h hs 0 3, if_pos q]
  unfold F_X8_readNumber_J114
  rw [if_pos (show (0 : Int) = 0 from rfl)]
theorem k_numM (hN : BigN N) (B : BX σ n C) {s e : Nat} (hl : s < n) (hd : C s = 45) (h : IsE cDi C n (s + 1) e) (hs : σ.1 1 3 = s) : F_X8_readNumber N σ = some (upI (upI (if s + 1 < e then upI (upI σ 1 3 ((s : Int) + 1)) 1 4 4 else upI (upI (upI σ 1 3 ((s : Int) + 1)) 1 4 4) 1 4 6) 1 3 (e : Int)) 1 6 (jneg (nmC C (s + 1) (e - (s + 1))))) := by
  have b1 := B.1
  have Bu : BX (upI σ 1 3 ((s : Int) + 1)) n C := B.cg (up_ix (by decide)) (fun z => up_pl (by decide))
  have u3 : (upI σ 1 3 ((s : Int) + 1)).1 1 3 = ((s + 1 : Nat) : Int) := by rw [up_same]; omega
  unfold F_X8_readNumber
  rw [k_sign B hs, Option.bind_some, if_pos hl, if_pos hd]
  unfold F_X8_readNumber_J14 F_X8_readNumber_J29
  rw [if_neg (show ¬ (1 : Int) = 0 by decide), if_neg (show ¬ (1 : Int) = 0 by decide), hs, ja_1 (by omega) (by omega), k_num39 hN Bu h u3 1 4]
  unfold F_X8_readNumber_J114
  rw [if_neg (show ¬ (1 : Int) = 0 by decide)]
end TOK
