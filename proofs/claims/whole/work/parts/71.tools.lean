/-! TOOLS: loops by an invariant -/
theorem loop_G {X S Rt R' : Type} {b : X → S → (S → Option Rt) → Option Rt} {fin : X → R' → Option Rt} (I : Nat → S → Prop) (P : R' → Prop) (m : Nat) (hs : ∀ k s, k ≤ m → I k s → (k < m ∧ ∃ s', I (k + 1) s' ∧ ∀ x nx, b x s nx = nx s') ∨ (∃ r, P r ∧ ∀ x nx, b x s nx = fin x r)) : ∀ (d k : Nat) (s : S) (N : Nat), d = m - k → k ≤ m → m - k < N → I k s → ∃ r, P r ∧ ∀ x, loopK (b x) N s = fin x r := by
  intro d
  induction d with
  | zero =>
    intro k s N hd hk hN hI
    obtain ⟨n, rfl⟩ : ∃ n, N = n + 1 := ⟨N - 1, by omega⟩
    rcases hs k s hk hI with ⟨h, _⟩ | ⟨r, hr, h⟩
    · omega
    · exact ⟨r, hr, fun x => h x _⟩
  | succ d ih =>
    intro k s N hd hk hN hI
    obtain ⟨n, rfl⟩ : ∃ n, N = n + 1 := ⟨N - 1, by omega⟩
    rcases hs k s hk hI with ⟨hkm, s', hI', h⟩ | ⟨r, hr, h⟩
    · obtain ⟨r, hr, h2⟩ := ih (k + 1) s' n (by omega) (by omega) (by omega) hI'
      exact ⟨r, hr, fun x => (h x (loopK (b x) n)).trans (h2 x)⟩
    · exact ⟨r, hr, fun x => h x _⟩
/-- nested: what stands behind the loop is fin x s, x what the outer loop goes on with -/
theorem loop_X {X S Rt : Type} {b : X → S → (S → Option Rt) → Option Rt} {fin : X → S → Option Rt} {N : Nat} {s0 : S} (I : Nat → S → Prop) (m : Nat) (hN : m < N) (h0 : I 0 s0) (hs : ∀ k s, k < m → I k s → ∃ s', I (k + 1) s' ∧ ∀ x nx, b x s nx = nx s') (he : ∀ s, I m s → ∀ x nx, b x s nx = fin x s) : ∃ s, I m s ∧ ∀ x, loopK (b x) N s0 = fin x s := by
  refine loop_G (b := b) (fin := fin) I (I m) m (fun k s hk hI => ?_) m 0 s0 N rfl (Nat.zero_le _) hN h0
  rcases Nat.lt_or_ge k m with h | h
  · exact Or.inl ⟨h, hs k s h hI⟩
  · have e : k = m := by omega
    subst e
    exact Or.inr ⟨s, hI, he s hI⟩
theorem loop_A {S Rt : Type} {b : S → (S → Option Rt) → Option Rt} {fin : S → Option Rt} {N : Nat} {s0 : S} (I : Nat → S → Prop) (m : Nat) (hN : m < N) (h0 : I 0 s0) (hs : ∀ k s, k < m → I k s → ∃ s', I (k + 1) s' ∧ ∀ nx, b s nx = nx s') (he : ∀ s, I m s → ∀ nx, b s nx = fin s) : ∃ s, I m s ∧ loopK b N s0 = fin s := by
  obtain ⟨s, h1, h2⟩ := loop_X (X := Unit) (b := fun _ => b) (fin := fun _ => fin) I m hN h0 (fun k s hk hI => by
    obtain ⟨s', a, c⟩ := hs k s hk hI
    exact ⟨s', a, fun _ => c⟩) (fun s hI _ => he s hI)
  exact ⟨s, h1, h2 ()⟩
/-- with an early end: each round goes on, or ends in r with P r -/
theorem loop_E {X S Rt R' : Type} {b : X → S → (S → Option Rt) → Option Rt} {fin : X → R' → Option Rt} {N : Nat} {s0 : S} (I : Nat → S → Prop) (P : R' → Prop) (m : Nat) (hN : m < N) (h0 : I 0 s0) (hs : ∀ k s, k ≤ m → I k s → (k < m ∧ ∃ s', I (k + 1) s' ∧ ∀ x nx, b x s nx = nx s') ∨ (∃ r, P r ∧ ∀ x nx, b x s nx = fin x r)) : ∃ r, P r ∧ ∀ x, loopK (b x) N s0 = fin x r := loop_G I P m hs m 0 s0 N rfl (Nat.zero_le _) hN h0
theorem loop_P {S Rt : Type} {b : S → (S → Option Rt) → Option Rt} {N : Nat} {s0 : S} (I : Nat → S → Prop) (P : Option Rt → Prop) (m : Nat) (hN : m < N) (h0 : I 0 s0) (hs : ∀ k s, k ≤ m → I k s → (k < m ∧ ∃ s', I (k + 1) s' ∧ ∀ nx, b s nx = nx s') ∨ (∃ r, P r ∧ ∀ nx, b s nx = r)) : P (loopK b N s0) := by
  obtain ⟨r, h1, h2⟩ := loop_E (X := Unit) (b := fun _ => b) (fin := fun _ r => r) I P m hN h0 (fun k s hk hI => by
    rcases hs k s hk hI with ⟨a, s', c, d⟩ | ⟨r, a, c⟩
    · exact Or.inl ⟨a, s', c, fun _ => d⟩
    · exact Or.inr ⟨r, a, fun _ => c⟩)
  rw [h2 ()]; exact h1
theorem bigN {N k : Nat} (h : BigN N) (hk : k ≤ 1000000000000 := by omega) : k < N := Nat.lt_of_le_of_lt hk (Nat.lt_of_lt_of_le (Nat.lt_of_sub_eq_succ rfl : 1000000000000 < 10000000000000000000000000000000000000000) h)
/-! numbers -/
theorem ja_1 {k : Int} (h0 : 0 ≤ k) (h1 : k < 2000000000) : ja k 1 = k + 1 := ja_eq ⟨by omega, by omega⟩
theorem ix12 {i j : Int} (h0 : 0 ≤ i) (h1 : i < 12) (h2 : 0 ≤ j) (h3 : j < 12) : ja (jm i 12) j = 12 * i + j := by
  rw [jm_eq ⟨by omega, by omega⟩, ja_eq ⟨by omega, by omega⟩]; omega
theorem ix12' {i j : Int} (h0 : 0 ≤ i) (h1 : i < 13) (h2 : 0 ≤ j) (h3 : j < 13) : ja (jm 12 i) j = 12 * i + j := by
  rw [jm_eq ⟨by omega, by omega⟩, ja_eq ⟨by omega, by omega⟩]
theorem ix8 {i j : Int} (h0 : 0 ≤ i) (h1 : i < 30) (h2 : 0 ≤ j) (h3 : j < 8) : ja (jm i 8) j = 8 * i + j := by
  rw [jm_eq ⟨by omega, by omega⟩, ja_eq ⟨by omega, by omega⟩]; omega
theorem ix8' {i j : Int} (h0 : 0 ≤ i) (h1 : i < 30) (h2 : 0 ≤ j) (h3 : j < 8) : ja (jm 8 i) j = 8 * i + j := by
  rw [jm_eq ⟨by omega, by omega⟩, ja_eq ⟨by omega, by omega⟩]
theorem jmin_eq {a b : Int} : jmin a b = if a < b then a else b := by
  unfold jmin; split <;> split <;> omega
theorem jabs_eq {a : Int} (h1 : -2147483648 < a) (h2 : a ≤ 2147483647) : jabs a = if a < 0 then -a else a := by
  unfold jabs
  split
  · rename_i q
    rw [if_neg (by omega)]
  · rename_i q
    rw [if_pos (by omega), js_eq ⟨by omega, by omega⟩]
    omega
/-! the store -/
theorem up_same {σ : Sto} {k : Nat} {j v : Int} : (upI σ k j v).1 k j = v := if_pos ⟨rfl, rfl⟩
theorem up_pl {σ : Sto} {k a : Nat} {j v b : Int} (h : a ≠ k) : (upI σ k j v).1 a b = σ.1 a b := if_neg (fun z => h z.1)
theorem up_ix {σ : Sto} {k a : Nat} {j v b : Int} (h : b ≠ j) : (upI σ k j v).1 a b = σ.1 a b := if_neg (fun z => h z.2)
/-! bits (rows of the kit's BITS.to-paste, then ours over Int) -/
def bt (x : Int32) (i : Nat) : Bool := x.toBitVec.getLsbD i
theorem b_ext {x y : Int32} (h : ∀ i, i < 32 → bt x i = bt y i) : x = y := Int32.toBitVec_inj.mp (BitVec.eq_of_getLsbD_eq (fun i hi => h i hi))
theorem b_or (x y : Int32) (i : Nat) : bt (x ||| y) i = (bt x i || bt y i) := by unfold bt; rw [Int32.toBitVec_or, BitVec.getLsbD_or]
theorem b_and (x y : Int32) (i : Nat) : bt (x &&& y) i = (bt x i && bt y i) := by unfold bt; rw [Int32.toBitVec_and, BitVec.getLsbD_and]
theorem b_xor (x y : Int32) (i : Nat) : bt (x ^^^ y) i = (bt x i ^^ bt y i) := by unfold bt; rw [Int32.toBitVec_xor, BitVec.getLsbD_xor]
theorem b_0 (i : Nat) : bt 0 i = false := BitVec.getLsbD_zero
theorem s_l : ∀ n, n < 32 → ((nI n &&& 31).toBitVec.smod 32).toNat = n := by decide +kernel
theorem b_shl (n : Nat) (hn : n < 32) (x : Int32) {i : Nat} (hi : i < 32) : bt (x <<< (nI n &&& 31)) i = (decide (n ≤ i) && bt x (i - n)) := by
  unfold bt
  rw [Int32.toBitVec_shiftLeft]
  show (x.toBitVec <<< ((nI n &&& 31).toBitVec.smod 32).toNat).getLsbD i = _
  rw [s_l n hn, BitVec.getLsbD_shiftLeft]
  rcases Nat.lt_or_ge i n with h | h
  · simp [h, Nat.not_le.mpr h]
  · simp [hi, h, Nat.not_lt.mpr h]
theorem b_sshr (n : Nat) (hn : n < 32) (x : Int32) {i : Nat} (hi : i < 32) : bt (x >>> (nI n &&& 31)) i = if n + i < 32 then bt x (n + i) else bt x 31 := by
  unfold bt
  rw [Int32.toBitVec_shiftRight]
  show (x.toBitVec.sshiftRight ((nI n &&& 31).toBitVec.smod 32).toNat).getLsbD i = _
  rw [s_l n hn, BitVec.getLsbD_sshiftRight, BitVec.msb_eq_getLsbD_last]
  simp [hi]
def tb (x : Int) (i : Nat) : Bool := bt (Int32.ofInt x) i
theorem oN (k : Nat) : Int32.ofInt (k : Int) = nI k := Int32.ofInt_eq_ofNat
theorem tb_0 (i : Nat) : tb 0 i = false := b_0 i
theorem tb_or (x y : Int) (i : Nat) : tb (jor x y) i = (tb x i || tb y i) := by
  unfold tb jor; rw [Int32.ofInt_toInt, b_or]
theorem tb_and (x y : Int) (i : Nat) : tb (jand x y) i = (tb x i && tb y i) := by
  unfold tb jand; rw [Int32.ofInt_toInt, b_and]
theorem tb_xor (x y : Int) (i : Nat) : tb (jxor x y) i = (tb x i ^^ tb y i) := by
  unfold tb jxor; rw [Int32.ofInt_toInt, b_xor]
theorem tb_m1 : ∀ i, i < 32 → tb (-1) i = true := by decide +kernel
theorem tb_1 : ∀ i, i < 32 → tb 1 i = decide (i = 0) := by decide +kernel
theorem tb_shl {x : Int} {k : Nat} (hk : k < 32) {i : Nat} (hi : i < 32) : tb (jshl x (k : Int)) i = (decide (k ≤ i) && tb x (i - k)) := by
  unfold tb jshl; rw [Int32.ofInt_toInt, oN, b_shl k hk _ hi]
theorem tb_sh1 {k : Nat} (hk : k < 32) {i : Nat} (hi : i < 32) : tb (jshl 1 (k : Int)) i = decide (i = k) := by
  rw [tb_shl hk hi]
  by_cases h : k ≤ i
  · rw [tb_1 _ (by omega)]
    by_cases e : i = k
    · subst e; simp
    · have e2 : ¬ (i - k = 0) := by omega
      rw [decide_eq_false e, decide_eq_false e2, Bool.and_false]
  · rw [decide_eq_false h, Bool.false_and, decide_eq_false (by omega)]
theorem tb_shr {x : Int} {k : Nat} (hk : k < 32) {i : Nat} (hi : i < 32) : tb (jshr x (k : Int)) i = if k + i < 32 then tb x (k + i) else tb x 31 := by
  unfold tb jshr; rw [Int32.ofInt_toInt, oN, b_sshr k hk _ hi]
theorem tb_ext {x y : Int} (hx : inR x) (hy : inR y) (h : ∀ i, i < 32 → tb x i = tb y i) : x = y := by
  have e : Int32.ofInt x = Int32.ofInt y := b_ext h
  have := congrArg Int32.toInt e
  rwa [t_ofI hx, t_ofI hy] at this
/-- one bit -/
theorem tb_test {x : Int} {k : Nat} (hk : k < 32) : jand (jshr x (k : Int)) 1 = if tb x k = true then 1 else 0 := by
  refine tb_ext (jand_R _ _) (by split <;> exact ⟨by decide, by decide⟩) (fun i hi => ?_)
  rw [tb_and, tb_shr hk hi, tb_1 i hi]
  by_cases e : i = 0
  · subst e
    rw [if_pos (by omega), Nat.add_zero]
    by_cases q : tb x k = true
    · rw [if_pos q, q]; rfl
    · rw [if_neg q, tb_0]
      cases h : tb x k
      · rfl
      · exact absurd h q
  · rw [decide_eq_false e, Bool.and_false]
    by_cases q : tb x k = true
    · rw [if_pos q, tb_1 i hi, decide_eq_false e]
    · rw [if_neg q, tb_0]
theorem tb_test1 {x : Int} {k : Nat} (hk : k < 32) : jand (jshr x (k : Int)) 1 = 1 ↔ tb x k = true := by
  rw [tb_test hk]; split <;> simp_all
theorem tb_test0 {x : Int} {k : Nat} (hk : k < 32) : jand (jshr x (k : Int)) 1 = 0 ↔ tb x k = false := by
  rw [tb_test hk]; split <;> simp_all
