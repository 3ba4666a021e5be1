/-! SETTLING -/
def amin (B : Nat → Int) : Nat → Nat
  | 0 => 0
  | k + 1 => if B k < B (amin B k) then k else amin B k
def amax (B : Nat → Int) : Nat → Nat
  | 0 => 0
  | k + 1 => if B (amax B k) < B k then k else amax B k
theorem amin_ok {B : Nat → Int} : ∀ {n : Nat}, (0 < n → amin B n < n) ∧ ∀ i, i < n → B (amin B n) ≤ B i := by
  intro n
  induction n with
  | zero => exact ⟨fun h => by omega, fun i h => by omega⟩
  | succ n ih =>
    have e : amin B (n + 1) = if B n < B (amin B n) then n else amin B n := rfl
    rw [e]
    by_cases q : B n < B (amin B n)
    · rw [if_pos q]
      refine ⟨fun _ => by omega, fun i hi => ?_⟩
      by_cases z : i = n
      · subst z; exact Int.le_refl _
      · have := ih.2 i (by omega); omega
    · rw [if_neg q]
      refine ⟨fun _ => ?_, fun i hi => ?_⟩
      · rcases Nat.eq_zero_or_pos n with z | z
        · subst z; exact Nat.lt_succ_self 0
        · have := ih.1 z; omega
      · by_cases z : i = n
        · subst z; omega
        · exact ih.2 i (by omega)
theorem amax_ok {B : Nat → Int} : ∀ {n : Nat}, (0 < n → amax B n < n) ∧ ∀ i, i < n → B i ≤ B (amax B n) := by
  intro n
  induction n with
  | zero => exact ⟨fun h => by omega, fun i h => by omega⟩
  | succ n ih =>
    have e : amax B (n + 1) = if B (amax B n) < B n then n else amax B n := rfl
    rw [e]
    by_cases q : B (amax B n) < B n
    · rw [if_pos q]
      refine ⟨fun _ => by omega, fun i hi => ?_⟩
      by_cases z : i = n
      · subst z; exact Int.le_refl _
      · have := ih.2 i (by omega); omega
    · rw [if_neg q]
      refine ⟨fun _ => ?_, fun i hi => ?_⟩
      · rcases Nat.eq_zero_or_pos n with z | z
        · subst z; exact Nat.lt_succ_self 0
        · have := ih.1 z; omega
      · by_cases z : i = n
        · subst z; omega
        · exact ih.2 i (by omega)
theorem amin_congr {B C : Nat → Int} : ∀ {n : Nat}, (∀ i, i < n → B i = C i) → amin B n = amin C n := by
  intro n
  induction n with
  | zero => intro _; rfl
  | succ n ih =>
    intro h
    have e := ih (fun i hi => h i (by omega))
    show (if B n < B (amin B n) then n else amin B n) = (if C n < C (amin C n) then n else amin C n)
    rw [e]
    rcases Nat.eq_zero_or_pos n with z | z
    · subst z
      show (if B 0 < B 0 then _ else _) = (if C 0 < C 0 then _ else _)
      rw [if_neg (by omega), if_neg (by omega)]
    · have l := (amin_ok (B := C) (n := n)).1 z
      rw [h n (by omega), h (amin C n) (by omega)]
/-- what is paid next -/
def pyA (n : Nat) (B : Nat → Int) : Int := mn (-B (amin B n)) (B (amax B n))
def stB (n : Nat) (B : Nat → Int) : Nat → Int := fun i => B i + (if i = amin B n then pyA n B else 0) - (if i = amax B n then pyA n B else 0)
def bsq (n : Nat) (B : Nat → Int) : Nat → Nat → Int
  | 0 => B
  | k + 1 => stB n (bsq n B k)
def stopB (n : Nat) (B : Nat → Int) : Prop := n = 0 ∨ 0 ≤ B (amin B n)
def BOk (n : Nat) (B : Nat → Int) : Prop := sN B n = 0 ∧ ∀ i, i < n → -20000000 ≤ B i ∧ B i ≤ 20000000
def nzB (n : Nat) (B : Nat → Int) : Nat := cntS (fun i => decide (B i ≠ 0)) n
theorem sN_nonpos {g : Nat → Int} : ∀ {n : Nat}, (∀ k, k < n → g k ≤ 0) → ∀ j, j < n → sN g n ≤ g j := by
  intro n
  induction n with
  | zero => intro _ j h; omega
  | succ n ih =>
    intro h j hj
    have z : sN g n ≤ 0 := by
      have := sN_le (g := g) (h := fun _ => 0) (n := n) (fun k hk => h k (by omega))
      rw [sN_zero] at this; exact this
    show sN g n + g n ≤ g j
    by_cases e : j = n
    · subst e; omega
    · have := ih (fun k hk => h k (by omega)) j (by omega)
      have := h n (by omega)
      omega
theorem max_pos {n : Nat} {B : Nat → Int} (h : BOk n B) (hs : ¬ stopB n B) : 0 < n ∧ amin B n < n ∧ amax B n < n ∧ B (amin B n) < 0 ∧ 0 < B (amax B n) ∧ amin B n ≠ amax B n := by
  have hn : 0 < n := by
    rcases Nat.eq_zero_or_pos n with z | z
    · exact absurd (Or.inl z) hs
    · exact z
  have h1 : B (amin B n) < 0 := by
    rcases Int.lt_or_le (B (amin B n)) 0 with z | z
    · exact z
    · exact absurd (Or.inr z) hs
  have l1 := (amin_ok (B := B) (n := n)).1 hn
  have l2 := (amax_ok (B := B) (n := n)).1 hn
  have h2 : 0 < B (amax B n) := by
    rcases Int.lt_or_le 0 (B (amax B n)) with z | z
    · exact z
    · have := sN_nonpos (g := B) (n := n) (fun k hk => Int.le_trans ((amax_ok (B := B) (n := n)).2 k hk) z) _ l1
      rw [h.1] at this
      omega
  exact ⟨hn, l1, l2, h1, h2, fun e => by rw [e] at h1; omega⟩
theorem stB_ok {n : Nat} {B : Nat → Int} (h : BOk n B) (hs : ¬ stopB n B) : BOk n (stB n B) ∧ nzB n (stB n B) < nzB n B := by
  obtain ⟨hn, l1, l2, h1, h2, hne⟩ := max_pos h hs
  have m := mn_le (a := -B (amin B n)) (b := B (amax B n))
  have p0 : 0 < pyA n B := by unfold pyA; omega
  have p1 : pyA n B ≤ -B (amin B n) := m.1
  have p2 : pyA n B ≤ B (amax B n) := m.2.1
  have p3 : pyA n B = -B (amin B n) ∨ pyA n B = B (amax B n) := m.2.2
  have vl : stB n B (amin B n) = B (amin B n) + pyA n B := by unfold stB; rw [if_pos rfl, if_neg hne, Int.sub_zero]
  have vh : stB n B (amax B n) = B (amax B n) - pyA n B := by unfold stB; rw [if_neg (fun z => hne z.symm), if_pos rfl, Int.add_zero]
  have vo : ∀ i, i ≠ amin B n → i ≠ amax B n → stB n B i = B i := fun i a c => by unfold stB; rw [if_neg a, if_neg c, Int.add_zero, Int.sub_zero]
  refine ⟨⟨?_, fun i hi => ?_⟩, ?_⟩
  · unfold stB
    rw [sN_sub (g := fun i => B i + (if i = amin B n then pyA n B else 0)), sN_add (g := B), sN_one l1, sN_one l2, h.1]
    omega
  · have b1 := h.2 i hi
    have bl := h.2 _ l1
    have bh := h.2 _ l2
    by_cases e1 : i = amin B n
    · rw [e1, vl]; omega
    · by_cases e2 : i = amax B n
      · rw [e2, vh]; omega
      · rw [vo i e1 e2]; exact b1
  · refine cntS_lt (fun k hk q => ?_) ?_
    · have q : stB n B k ≠ 0 := of_decide_eq_true q
      refine decide_eq_true ?_
      by_cases e1 : k = amin B n
      · rw [e1]; omega
      · by_cases e2 : k = amax B n
        · rw [e2]; omega
        · rw [vo k e1 e2] at q; exact q
    · rcases p3 with p3 | p3
      · exact ⟨amin B n, l1, decide_eq_false (by rw [vl, p3]; omega), decide_eq_true (by omega)⟩
      · exact ⟨amax B n, l2, decide_eq_false (by rw [vh, p3]; omega), decide_eq_true (by omega)⟩
theorem bsq_ok {n : Nat} {B : Nat → Int} (h : BOk n B) : ∀ k, (∀ j, j < k → ¬ stopB n (bsq n B j)) → BOk n (bsq n B k) ∧ nzB n (bsq n B k) + k ≤ n := by
  intro k
  induction k with
  | zero => intro _; exact ⟨h, cntS_le⟩
  | succ k ih =>
    intro hs
    obtain ⟨i1, i2⟩ := ih (fun j hj => hs j (by omega))
    obtain ⟨s1, s2⟩ := stB_ok i1 (hs k (by omega))
    exact ⟨s1, by show nzB n (stB n (bsq n B k)) + (k + 1) ≤ n; omega⟩
def IsT (n : Nat) (B : Nat → Int) (T : Nat) : Prop := T ≤ n ∧ (∀ j, j < T → ¬ stopB n (bsq n B j)) ∧ stopB n (bsq n B T)
theorem IsT.uniq {n : Nat} {B : Nat → Int} {T T' : Nat} (h : IsT n B T) (h' : IsT n B T') : T = T' := by
  rcases Nat.lt_trichotomy T T' with z | z | z
  · exact absurd h.2.2 (h'.2.1 T z)
  · exact z
  · exact absurd h'.2.2 (h.2.1 T' z)
theorem stop_n {n : Nat} {B : Nat → Int} (h : BOk n B) (hs : ∀ j, j < n → ¬ stopB n (bsq n B j)) : stopB n (bsq n B n) := by
  obtain ⟨i1, i2⟩ := bsq_ok h n hs
  rcases Nat.eq_zero_or_pos n with z | z
  · exact Or.inl z
  · refine Or.inr ?_
    have l1 := (amin_ok (B := bsq n B n) (n := n)).1 z
    rcases Int.lt_or_le (bsq n B n (amin (bsq n B n) n)) 0 with q | q
    · have : 1 ≤ nzB n (bsq n B n) := cntS_pos l1 (decide_eq_true (by omega))
      omega
    · exact q
theorem isT_ex {n : Nat} {B : Nat → Int} (h : BOk n B) : ∃ T, IsT n B T := by
  have key : ∀ d k, n - k = d → k ≤ n → (∀ j, j < k → ¬ stopB n (bsq n B j)) → ∃ T, IsT n B T := by
    intro d
    induction d with
    | zero =>
      intro k hd hk hs
      have e : k = n := by omega
      subst e
      exact ⟨k, Nat.le_refl _, hs, stop_n h hs⟩
    | succ d ih =>
      intro k hd hk hs
      by_cases q : stopB n (bsq n B k)
      · exact ⟨k, hk, hs, q⟩
      · refine ih (k + 1) (by omega) (by omega) (fun j hj => ?_)
        by_cases e : j = k
        · subst e; exact q
        · exact hs j (by omega)
  exact key n 0 rfl (by omega) (fun j hj => by omega)
noncomputable def sT (n : Nat) (B : Nat → Int) : Nat := Classical.epsilon (IsT n B)
theorem sT_is {n : Nat} {B : Nat → Int} (h : BOk n B) : IsT n B (sT n B) := Classical.epsilon_spec (isT_ex h)
/-! the class -/
section SET
variable {N : Nat} {σ : Sto} {b : Nat} {D : Dk}
theorem k_pay {x y c : Nat} {p : Int} (hx : x < 8) (hy : y < 8) (hc : c < 8) (h : x ≠ y) (e : σ.1 68 4 = c) : ∃ σ', F_X9_pay N x y p σ = some σ' ∧ σ'.1 68 4 = (c : Int) + 1 ∧ (∀ i : Nat, σ'.1 69 i = if i = x then ja (σ.1 69 x) p else if i = y then js (σ.1 69 y) p else σ.1 69 i) ∧ (σ'.1 70 c = x ∧ σ'.1 71 c = y ∧ σ'.1 72 c = p) ∧ ∀ i : Nat, i ≠ c → σ'.1 70 i = σ.1 70 i ∧ σ'.1 71 i = σ.1 71 i ∧ σ'.1 72 i = σ.1 72 i := by
  have a1 : ∀ (τ : Sto) (j v i : Int), (upI τ 69 j v).1 68 i = τ.1 68 i := fun _ _ _ _ => up_pl (by decide)
  have a2 : ∀ (τ : Sto) (j v i : Int), (upI τ 70 j v).1 68 i = τ.1 68 i := fun _ _ _ _ => up_pl (by decide)
  have a3 : ∀ (τ : Sto) (j v i : Int), (upI τ 71 j v).1 68 i = τ.1 68 i := fun _ _ _ _ => up_pl (by decide)
  have a4 : ∀ (τ : Sto) (j v i : Int), (upI τ 72 j v).1 68 i = τ.1 68 i := fun _ _ _ _ => up_pl (by decide)
  have hyx : (y : Int) ≠ x := by omega
  have e2 : (upI σ 69 (x : Int) (ja (σ.1 69 x) p)).1 69 y = σ.1 69 y := up_ix hyx
  unfold F_X9_pay
  simp only [a1, a2, a3, a4, e]
  rw [inb_in (by omega), inb_in (by omega), inb_in (by omega), inb_in (by omega), inb_in (by omega), e2, ja_1 (k := (c : Int)) (by omega) (by omega)]
  refine ⟨_, rfl, up_same, fun i => ?_, ⟨?_, ?_, ?_⟩, fun i hi => ⟨?_, ?_, ?_⟩⟩
  · rw [up_pl (by decide), up_pl (by decide), up_pl (by decide), up_pl (by decide)]
    by_cases q1 : i = x
    · subst q1
      rw [if_pos rfl, up_ix (by omega), up_same]
    · rw [if_neg q1]
      by_cases q2 : i = y
      · subst q2
        rw [if_pos rfl, up_same]
      · rw [if_neg q2, up_ix (by omega), up_ix (by omega)]
  · rw [up_pl (by decide), up_pl (by decide), up_pl (by decide), up_same]
  · rw [up_pl (by decide), up_pl (by decide), up_same]
  · rw [up_pl (by decide), up_same]
  · rw [up_pl (by decide), up_pl (by decide), up_pl (by decide), up_ix (by omega), up_pl (by decide), up_pl (by decide)]
  · rw [up_pl (by decide), up_pl (by decide), up_ix (by omega), up_pl (by decide), up_pl (by decide), up_pl (by decide)]
  · rw [up_pl (by decide), up_ix (by omega), up_pl (by decide), up_pl (by decide), up_pl (by decide), up_pl (by decide)]
/-- what has been paid -/
def PayR (σ : Sto) (n : Nat) (B : Nat → Int) (k : Nat) : Prop := σ.1 68 4 = k ∧ ∀ i : Nat, i < k → σ.1 70 i = (amin (bsq n B i) n : Nat) ∧ σ.1 71 i = (amax (bsq n B i) n : Nat) ∧ σ.1 72 i = pyA n (bsq n B i)
theorem k_settleRun (hN : BigN N) {n : Nat} (hn : n ≤ 8) {B : Nat → Int} (hB : BOk n B) (h : ∀ i : Nat, i < n → σ.1 69 i = B i) : ∃ σ', F_X9_run N n σ = some σ' ∧ PayR σ' n B (sT n B) := by
  have hT := sT_is hB
  have inner : ∀ (τ : Sto) (C : Nat → Int) (k : Int) nx7, (∀ i : Nat, i < n → τ.1 69 i = C i) → 0 < n → loopK (fun q nx20 => F_X9_run_B20 N nx7 nx20 n k q.1 q.2.1 q.2.2 τ) N (0, 0, 1) = F_X9_run_J81 N nx7 n k (amin C n : Nat) (amax C n : Nat) τ := fun τ C k nx7 hC h0 => by
    have a1 : amin C (0 + 1) = 0 := by show (if C 0 < C 0 then 0 else 0) = 0; split <;> rfl
    have z1 : amax C (0 + 1) = 0 := by show (if C 0 < C 0 then 0 else 0) = 0; split <;> rfl
    have st : ((0 : Int), (0 : Int), (1 : Int)) = (((amin C (0 + 1) : Nat) : Int), ((amax C (0 + 1) : Nat) : Int), ((0 + 1 : Nat) : Int)) := by rw [a1, z1]; rfl
    rw [st]
    refine loopK_for (b := fun q nx20 => F_X9_run_B20 N nx7 nx20 n k q.1 q.2.1 q.2.2 τ) (s := fun j => (((amin C (j + 1) : Nat) : Int), ((amax C (j + 1) : Nat) : Int), ((j + 1 : Nat) : Int))) (n - 1) (bigN hN) (fun j hj nx => ?_) (fun nx => ?_)
    · show F_X9_run_B20 N nx7 nx n k (amin C (j + 1) : Nat) (amax C (j + 1) : Nat) ((j + 1 : Nat) : Int) τ = nx (((if C (j + 1) < C (amin C (j + 1)) then j + 1 else amin C (j + 1) : Nat) : Int), ((if C (amax C (j + 1)) < C (j + 1) then j + 1 else amax C (j + 1) : Nat) : Int), ((j + 1 + 1 : Nat) : Int))
      have l1 := (amin_ok (B := C) (n := j + 1)).1 (by omega)
      have l2 := (amax_ok (B := C) (n := j + 1)).1 (by omega)
      unfold F_X9_run_B20 F_X9_run_J48 F_X9_run_J73
      rw [if_neg (by omega), inb_in (by omega), inb_in (by omega), hC _ (by omega), hC _ (by omega), inb_in (by omega), inb_in (by omega), hC _ (by omega), ja_1 (by omega) (by omega), show ((j + 1 + 1 : Nat) : Int) = ((j + 1 : Nat) : Int) + 1 by omega]
      by_cases q1 : C (j + 1) < C (amin C (j + 1))
      · rw [if_neg (by omega), if_pos q1]
        by_cases q2 : C (amax C (j + 1)) < C (j + 1)
        · rw [if_neg (by omega), if_pos q2, inb_in (by omega), inb_in (by omega)]
        · rw [if_pos (by omega), if_neg q2, inb_in (by omega), inb_in (by omega)]
      · rw [if_pos (by omega), if_neg q1]
        by_cases q2 : C (amax C (j + 1)) < C (j + 1)
        · rw [if_neg (by omega), if_pos q2]
        · rw [if_pos (by omega), if_neg q2]
    · show F_X9_run_B20 N nx7 nx n k (amin C (n - 1 + 1) : Nat) (amax C (n - 1 + 1) : Nat) ((n - 1 + 1 : Nat) : Int) τ = _
      unfold F_X9_run_B20
      rw [if_pos (by omega), show n - 1 + 1 = n by omega]
  unfold F_X9_run
  obtain ⟨r, r1, r2⟩ := loop_E (X := Unit) (R' := Sto) (b := fun _ q nx7 => F_X9_run_B7 N nx7 n q.1 q.2) (fin := fun _ r => some r) (N := N) (s0 := ((0 : Int), upI σ 68 4 0)) (fun k s => s.1 = k ∧ (∀ i : Nat, i < n → s.2.1 69 i = bsq n B k i) ∧ PayR s.2 n B k ∧ ∀ j, j < k → ¬ stopB n (bsq n B j)) (fun r => PayR r n B (sT n B)) n (bigN hN) ⟨rfl, fun i hi => (up_pl (by decide)).trans (h i hi), ⟨up_same, fun i hi => by omega⟩, fun j hj => by omega⟩ (fun k s hk hI => by
    obtain ⟨v, τ⟩ := s
    obtain ⟨i1, i2, i3, i4⟩ := hI
    have i1 : v = k := i1
    subst i1
    by_cases e : k = n
    · subst e
      have : sT k B = k := hT.uniq ⟨Nat.le_refl _, i4, stop_n hB i4⟩
      refine Or.inr ⟨τ, by rw [this]; exact i3, fun _ nx => ?_⟩
      show F_X9_run_B7 N nx k k τ = _
      unfold F_X9_run_B7
      rw [if_pos (Int.le_refl _)]
    · have hk : k < n := by omega
      obtain ⟨ok, -⟩ := bsq_ok hB k i4
      by_cases q : stopB n (bsq n B k)
      · have : sT n B = k := hT.uniq ⟨by omega, i4, q⟩
        have l1 := (amin_ok (B := bsq n B k) (n := n)).1 (by omega)
        have q0 : 0 ≤ bsq n B k (amin (bsq n B k) n) := by
          rcases q with q | q
          · omega
          · exact q
        refine Or.inr ⟨τ, by rw [this]; exact i3, fun _ nx => ?_⟩
        show F_X9_run_B7 N nx n k τ = _
        unfold F_X9_run_B7
        rw [if_neg (by omega), inner τ (bsq n B k) k nx i2 (by omega)]
        unfold F_X9_run_J81
        rw [inb_in (by omega), i2 _ l1, if_neg (by omega)]
      · obtain ⟨hn0, l1, l2, h1, h2, hne⟩ := max_pos ok q
        have bl := ok.2 _ l1
        have bh := ok.2 _ l2
        have m := mn_le (a := -bsq n B k (amin (bsq n B k) n)) (b := bsq n B k (amax (bsq n B k) n))
        have pe : jmin (jneg (τ.1 69 (amin (bsq n B k) n : Nat))) (τ.1 69 (amax (bsq n B k) n : Nat)) = pyA n (bsq n B k) := by
          rw [i2 _ l1, i2 _ l2, jneg_eq ⟨by omega, by omega⟩, jmin_mn]; rfl
        have m1 : pyA n (bsq n B k) ≤ -bsq n B k (amin (bsq n B k) n) := m.1
        have m2 : pyA n (bsq n B k) ≤ bsq n B k (amax (bsq n B k) n) := m.2.1
        have m3 : pyA n (bsq n B k) = -bsq n B k (amin (bsq n B k) n) ∨ pyA n (bsq n B k) = bsq n B k (amax (bsq n B k) n) := m.2.2
        obtain ⟨τ', p1, p2, p3, p4, p5⟩ := k_pay (N := N) (σ := τ) (p := pyA n (bsq n B k)) (by omega : amin (bsq n B k) n < 8) (by omega : amax (bsq n B k) n < 8) (c := k) (by omega) hne i3.1
        refine Or.inl ⟨hk, ((k : Int) + 1, τ'), ⟨by show (k : Int) + 1 = ((k + 1 : Nat) : Int); omega, fun i hi => ?_, ⟨by rw [p2]; omega, fun i hi => ?_⟩, fun j hj => ?_⟩, fun _ nx => ?_⟩
        · show τ'.1 69 i = stB n (bsq n B k) i
          rw [p3 i]
          unfold stB
          by_cases q1 : i = amin (bsq n B k) n
          · rw [if_pos q1, if_pos q1, if_neg (fun z => hne (q1.symm.trans z)), Int.sub_zero, q1, i2 _ l1, ja_eq ⟨by omega, by omega⟩]
          · rw [if_neg q1, if_neg q1]
            by_cases q2 : i = amax (bsq n B k) n
            · rw [if_pos q2, if_pos q2, Int.add_zero, q2, i2 _ l2, js_eq ⟨by omega, by omega⟩]
            · rw [if_neg q2, if_neg q2, Int.add_zero, Int.sub_zero, i2 i hi]
        · by_cases z : i = k
          · subst z; exact p4
          · have := p5 i z
            rw [this.1, this.2.1, this.2.2]
            exact i3.2 i (by omega)
        · by_cases z : j = k
          · subst z; exact q
          · exact i4 j (by omega)
        · show F_X9_run_B7 N nx n k τ = _
          unfold F_X9_run_B7
          rw [if_neg (by omega), inner τ (bsq n B k) k nx i2 (by omega)]
          unfold F_X9_run_J81
          rw [inb_in (by omega), pe, i2 _ l1, if_pos h1, inb_in (by omega), p1, Option.bind_some, ja_1 (by omega) (by omega)])
  exact ⟨r, r2 (), r1⟩
noncomputable def balN (D : Dk) : Nat → Int := fun m => bal D (m : Int)
theorem bal_ok (V : Val D) (K : GdD D) (R : RD D) : BOk (dm D) (balN D) := ⟨bal_sum V K R, fun i _ => by
  have c1 := pAl_bd V K R (-1) (i : Int)
  have c2 := pAl_bd V K R (i : Int) (-1)
  show -20000000 ≤ pAl D (-1) i - pAl D i (-1) ∧ pAl D (-1) i - pAl D i (-1) ≤ 20000000
  omega⟩
theorem k_settle (hN : BigN N) (V : Val D) (K : GdD D) (X : XC σ b D) : ∃ σ', F_X11_settle N σ = some σ' ∧ XC σ' b D ∧ RO σ σ' ∧ PayR σ' (dm D) (balN D) (sT (dm D) (balN D)) := by
  have vz := V.sz
  obtain ⟨σ2, b1, b2, b3, b4, b5, -⟩ := k_refreshFlow hN V K X
  have R := b5.ends
  unfold F_X11_settle
  rw [b1, Option.bind_some]
  obtain ⟨s, ⟨h1, h2, h3, h4⟩, h5⟩ := loop_A (b := fun q nx6 => F_X11_settle_B6 N nx6 q.1 q.2) (fin := fun s => F_X11_settle_J45 N s.2) (N := N) (s0 := ((0 : Int), σ2)) (fun k s => s.1 = k ∧ (∀ a j, a ≠ 69 → s.2.1 a j = σ2.1 a j) ∧ s.2.2 = σ2.2 ∧ ∀ i : Nat, i < k → s.2.1 69 i = balN D i) (dm D) (bigN hN) ⟨rfl, fun _ _ _ => rfl, rfl, fun i hi => by omega⟩ (fun k s hk hI => by
    obtain ⟨v, τ⟩ := s
    obtain ⟨i1, i2, i3, i4⟩ := hI
    have i1 : v = k := i1
    subst i1
    have Xt : XC τ b D := b2.cg (fun a j h => i2 a j (by omega)) (b2.2.2.2.2.1.cg (fun j => i2 _ _ (by decide)) (fun j => by rw [i3]))
    have Et : RunE τ 58 D (gD D) (cD D) (D.2 5) G0 := RunX.cg b5 (fun a j h1 h2 => i2 a j (by omega))
    have e8 : τ.1 b 8 = dm D := Xt.2.2.1.1.1
    have c1 := pAl_bd V K R (-1) (k : Int)
    have c2 := pAl_bd V K R (k : Int) (-1)
    refine ⟨((k : Int) + 1, upI τ 69 k (bal D k)), ⟨by show (k : Int) + 1 = ((k + 1 : Nat) : Int); omega, fun a j h => (up_pl h).trans (i2 a j h), i3, fun i hi => ?_⟩, fun nx => ?_⟩
    · show (upI τ 69 k (bal D k)).1 69 i = balN D i
      by_cases z : i = k
      · subst z; exact up_same
      · rw [up_ix (by omega)]; exact i4 i (by omega)
    · show F_X11_settle_B6 N nx k τ = _
      unfold F_X11_settle_B6
      rw [Xt.at, e8, if_neg (by omega), k_paidInAll hN V K Xt Et, Option.bind_some, k_paidInAll hN V K Xt Et, Option.bind_some, inb_in (by omega), ja_1 (by omega) (by omega), js_eq ⟨by omega, by omega⟩]
      rfl) (fun s hI nx => by
    obtain ⟨v, τ⟩ := s
    obtain ⟨i1, i2, i3, i4⟩ := hI
    have i1 : v = (dm D : Int) := i1
    have Xt : XC τ b D := b2.cg (fun a j h => i2 a j (by omega)) (b2.2.2.2.2.1.cg (fun j => i2 _ _ (by decide)) (fun j => by rw [i3]))
    have e8 : τ.1 b 8 = dm D := Xt.2.2.1.1.1
    show F_X11_settle_B6 N nx v τ = F_X11_settle_J45 N τ
    unfold F_X11_settle_B6
    rw [Xt.at, e8, i1, if_pos (Int.le_refl _)])
  rw [h5]
  have Xs : XC s.2 b D := b2.cg (fun a j h => h2 a j (by omega)) (b2.2.2.2.2.1.cg (fun j => h2 _ _ (by decide)) (fun j => by rw [h3]))
  have e8 : s.2.1 b 8 = dm D := Xs.2.2.1.1.1
  obtain ⟨σ3, c1, c2⟩ := k_settleRun (N := N) (σ := s.2) hN vz.1 (bal_ok V K R) h4
  have f := fr_X9_run c1
  have f1 : ∀ a j, a < 68 ∨ 72 < a → σ3.1 a j = s.2.1 a j := fun a j h => f.1 a j (fun z => by unfold Wr_X9_run at z; omega)
  have f2 : ∀ j, σ3.2 49 j = s.2.2 49 j := fun j => f.2 49 j (fun z => by unfold Wr_X9_run at z; omega)
  refine ⟨σ3, ?_, Xs.cg (fun a j h => f1 a j (by omega)) (Xs.2.2.2.2.1.cg (fun j => f1 _ _ (by omega)) f2), (b3.tr (fun a j h => h2 a j (by omega))).tr (fun a j h => f1 a j (by omega)), c2⟩
  show F_X11_settle_J45 N s.2 = _
  unfold F_X11_settle_J45
  rw [Xs.at, e8, c1]; rfl
noncomputable def rSettles (D : Dk) : Int := (sT (dm D) (balN D) : Nat)
noncomputable def rSettling (D : Dk) (k w : Int) : Int := if 0 ≤ k ∧ 0 ≤ w ∧ w ≤ 2 then (if k < (sT (dm D) (balN D) : Nat) then (if w = 0 then ((amin (bsq (dm D) (balN D) k.toNat) (dm D) : Nat) : Int) else if w = 1 then ((amax (bsq (dm D) (balN D) k.toNat) (dm D) : Nat) : Int) else pyA (dm D) (bsq (dm D) (balN D) k.toNat)) else -2) else -1
theorem x_settles (hN : BigN N) (V : Val D) (K : GdD D) (X : XC σ b D) : QX σ b D (F_X11_settles N σ) (rSettles D) := by
  obtain ⟨σ1, a1, a2, a3, a4⟩ := k_settle hN V K X
  unfold F_X11_settles rSettles
  rw [a1, Option.bind_some, a4.1]
  exact ⟨σ1, rfl, a2, a3⟩
theorem x_settling (hN : BigN N) (V : Val D) (K : GdD D) (X : XC σ b D) (R : RD D) (k w : Int) : QX σ b D (F_X11_settling N k w σ) (rSettling D k w) := by
  have vz := V.sz
  have hT := (sT_is (bal_ok V K R)).1
  unfold F_X11_settling rSettling
  by_cases h1 : k < 0
  · rw [if_pos h1, if_neg (by omega)]; exact QX.same X rfl
  · rw [if_neg h1]
    by_cases h2 : w < 0
    · rw [if_pos h2, if_neg (by omega)]; exact QX.same X rfl
    · rw [if_neg h2]
      by_cases h3 : w ≤ 2
      · obtain ⟨σ1, a1, a2, a3, a4⟩ := k_settle hN V K X
        rw [if_pos h3, if_pos (by omega), a1, Option.bind_some, a4.1]
        by_cases q : k < (sT (dm D) (balN D) : Nat)
        · have e := a4.2 k.toNat (by omega)
          rw [show ((k.toNat : Nat) : Int) = k by omega] at e
          rw [if_pos q, if_pos q, inb_in (by omega), inb_in (by omega), inb_in (by omega), e.1, e.2.1, e.2.2]
          by_cases w0 : w = 0
          · rw [if_pos w0, if_pos w0]; exact ⟨σ1, rfl, a2, a3⟩
          · rw [if_neg w0, if_neg w0]
            by_cases w1 : w = 1
            · rw [if_pos w1, if_pos w1]; exact ⟨σ1, rfl, a2, a3⟩
            · rw [if_neg w1, if_neg w1]; exact ⟨σ1, rfl, a2, a3⟩
        · rw [if_neg q, if_neg q]; exact ⟨σ1, rfl, a2, a3⟩
      · rw [if_neg h3, if_neg (by omega)]; exact QX.same X rfl
end SET
