/-! PERCENTS, SHARES, who CONTROLS whom: what they are, and the class's tables of them -/
def pctK (D : Dk) (a b day : Int) : Nat → Int × Int
  | 0 => (-1, 0)
  | k + 1 => if D.2 8 k = a ∧ D.2 9 k = b ∧ D.2 11 k ≤ day ∧ (pctK D a b day k).1 ≤ D.2 11 k then (D.2 11 k, D.2 10 k) else pctK D a b day k
def pct (D : Dk) (day a b : Int) : Int := (pctK D a b day (dn D)).2
theorem pctK_bd {D : Dk} (V : Val D) (a b day : Int) : ∀ k : Nat, k ≤ dn D → (-1 ≤ (pctK D a b day k).1 ∧ (pctK D a b day k).1 ≤ 999) ∧ 0 ≤ (pctK D a b day k).2 ∧ (pctK D a b day k).2 ≤ 100 := by
  intro k
  induction k with
  | zero =>
    intro _
    show ((-1 : Int) ≤ -1 ∧ (-1 : Int) ≤ 999) ∧ (0 : Int) ≤ 0 ∧ (0 : Int) ≤ 100
    omega
  | succ k ih =>
    intro hk
    have w := V.own (k := k) (by omega) (by omega)
    show (_ ≤ (if _ then _ else _ : Int × Int).1 ∧ (if _ then _ else _ : Int × Int).1 ≤ _) ∧ _ ≤ (if _ then _ else _ : Int × Int).2 ∧ (if _ then _ else _ : Int × Int).2 ≤ _
    split
    · exact ⟨⟨by show -1 ≤ D.2 11 k; omega, by show D.2 11 k ≤ 999; omega⟩, by show 0 ≤ D.2 10 k; omega, by show D.2 10 k ≤ 100; omega⟩
    · exact ih (by omega)
theorem pct_bd {D : Dk} (V : Val D) (day : Int) : ∀ a b, 0 ≤ pct D day a b ∧ pct D day a b ≤ 100 := fun a b => (pctK_bd V a b day (dn D) (Nat.le_refl _)).2
theorem pctK_low {D : Dk} (V : Val D) {a b : Int} (day : Int) (h : b ≤ a) : ∀ k : Nat, k ≤ dn D → pctK D a b day k = (-1, 0) := by
  intro k
  induction k with
  | zero => intro _; rfl
  | succ k ih =>
    intro hk
    have w := (V.own (k := k) (by omega) (by omega)).1
    show (if _ then _ else _ : Int × Int) = _
    rw [if_neg (by omega)]
    exact ih (by omega)
theorem pct_low {D : Dk} (V : Val D) {a b : Int} (day : Int) (h : b ≤ a) : pct D day a b = 0 := by
  unfold pct; rw [pctK_low V day h _ (Nat.le_refl _)]
def ctlB (P : Int → Int → Int) (g a b : Int) : Bool := decide (a < b) && !decide (jfcmp (FP.fmul (shr P a b) 1120403456) (ji2f g) .l < 0)
def relB (P : Int → Int → Int) (g : Int) (n : Nat) (a b : Int) : Bool := !decide (a = b) && (ctlB P g a b || ctlB P g b a || anyB (fun c => ctlB P g c a && ctlB P g c b) n)
/-- those to whom a is RELATED, as bits -/
def rlb (P : Int → Int → Int) (g : Int) (n : Nat) (a : Int) : Int := bset (fun i => relB P g n a i) n
def ShrR (σ : Sto) (D : Dk) (day : Int) : Prop := σ.1 46 5 = dm D ∧ (∀ a b : Int, 0 ≤ a → a < dm D → 0 ≤ b → b < dm D → a ≠ b → σ.1 47 (8 * a + b) = pct D day a b) ∧ (∀ a b : Int, 0 ≤ a → a < dm D → 0 ≤ b → b < dm D → fb (σ.2 49 (8 * a + b)) = shr (pct D day) a b)
/-- below the diagonal there is nothing -/
def LowZ (σ : Sto) : Prop := ∀ a b : Int, 0 ≤ b → b < a → a < 8 → σ.1 47 (8 * a + b) = 0 ∧ fb (σ.2 49 (8 * a + b)) = 0
section SHR
variable {N : Nat} {D : Dk}
theorem k_loadP3 (hN : BigN N) (V : Val D) {σ : Sto} {t : Nat} (ht : t ≤ 40) (day : Int) (T : PtsR σ t D) (h0 : ∀ a b : Int, 0 ≤ a → a < b → b < dm D → σ.1 47 (8 * a + b) = 0 ∧ σ.1 48 (8 * a + b) = -1) : ∃ σ', F_X10_loadPercents_J62 N t day σ = some σ' ∧ (∀ a b : Int, 0 ≤ a → a < b → b < dm D → σ'.1 47 (8 * a + b) = pct D day a b) ∧ ∀ a b : Int, 0 ≤ b → b < a → a < 8 → σ'.1 47 (8 * a + b) = σ.1 47 (8 * a + b) := by
  have v := V.sz
  unfold F_X10_loadPercents_J62
  refine Exists.elim (loop_A (b := fun q nx => F_X10_loadPercents_B64 N nx t day q.1 q.2) (fin := fun s => some s.2) (N := N) (s0 := (0, σ)) (fun k s => s.1 = k ∧ (∀ p j, p < 47 → s.2.1 p j = σ.1 p j) ∧ (∀ a b : Int, 0 ≤ a → a < b → b < dm D → s.2.1 48 (8 * a + b) = (pctK D a b day k).1 ∧ s.2.1 47 (8 * a + b) = (pctK D a b day k).2) ∧ ∀ a b : Int, 0 ≤ b → b < a → a < 8 → s.2.1 47 (8 * a + b) = σ.1 47 (8 * a + b)) (dn D) (bigN hN) ⟨rfl, fun _ _ _ => rfl, fun a b x y z => ⟨(h0 a b x y z).2, (h0 a b x y z).1⟩, fun _ _ _ _ _ => rfl⟩ (fun k s hk hI => ?_) (fun s hI nx => ?_)) (fun s hs => ?_)
  rotate_right
  · obtain ⟨hI, hF⟩ := hs
    refine ⟨s.2, hF, fun a b x y z => (hI.2.2.1 a b x y z).2, hI.2.2.2⟩
  · obtain ⟨j, τ⟩ := s
    obtain ⟨rfl, i1, i2, i3⟩ := hI
    have w := V.own (k := k) (by omega) (by omega)
    obtain ⟨e1, e2, e3, e4⟩ := T.2 k (by omega) (by omega)
    have c0 : τ.1 t 4 = dn D := (i1 t 4 (by omega)).trans T.1
    have c1 : τ.1 (t + 1) k = D.2 8 k := (i1 _ _ (by omega)).trans e1
    have c2 : τ.1 (t + 2) k = D.2 9 k := (i1 _ _ (by omega)).trans e2
    have c3 : τ.1 (t + 3) k = D.2 10 k := (i1 _ _ (by omega)).trans e3
    have c4 : τ.1 (t + 4) k = D.2 11 k := (i1 _ _ (by omega)).trans e4
    have ix : ja (jm (D.2 8 k) 8) (D.2 9 k) = 8 * D.2 8 k + D.2 9 k := ix8 (by omega) (by omega) (by omega) (by omega)
    have c5 := i2 (D.2 8 k) (D.2 9 k) (by omega) (by omega) (by omega)
    have step : ∀ a b : Int, pctK D a b day (k + 1) = if D.2 8 k = a ∧ D.2 9 k = b ∧ D.2 11 k ≤ day ∧ (pctK D a b day k).1 ≤ D.2 11 k then (D.2 11 k, D.2 10 k) else pctK D a b day k := fun _ _ => rfl
    by_cases h1 : day < D.2 11 k
    · refine ⟨((k : Int) + 1, τ), ⟨by show (k : Int) + 1 = _; omega, i1, fun a b x y z => ?_, i3⟩, fun nx => ?_⟩
      · rw [step, if_neg (by omega)]; exact i2 a b x y z
      · show F_X10_loadPercents_B64 N nx t day k τ = _
        unfold F_X10_loadPercents_B64 F_X10_loadPercents_J142
        rw [c0, if_neg (by omega), inb_in (by omega), c4, if_pos h1, ja_1 (by omega) (by omega)]
    · by_cases h2 : D.2 11 k < (pctK D (D.2 8 k) (D.2 9 k) day k).1
      · refine ⟨((k : Int) + 1, τ), ⟨by show (k : Int) + 1 = _; omega, i1, fun a b x y z => ?_, i3⟩, fun nx => ?_⟩
        · rw [step, if_neg (fun q => by
            obtain ⟨q1, q2, q3, q4⟩ := q
            rw [← q1, ← q2] at q4
            omega)]
          exact i2 a b x y z
        · show F_X10_loadPercents_B64 N nx t day k τ = _
          unfold F_X10_loadPercents_B64 F_X10_loadPercents_J142
          rw [c0, if_neg (by omega), inb_in (by omega), c4, c1, c2, ix, if_neg h1, inb_in (by omega), c5.1, if_pos h2, ja_1 (by omega) (by omega)]
      · refine ⟨((k : Int) + 1, upI (upI τ 48 (8 * D.2 8 k + D.2 9 k) (D.2 11 k)) 47 (8 * D.2 8 k + D.2 9 k) (D.2 10 k)), ⟨by show (k : Int) + 1 = _; omega, fun p j hp => ?_, fun a b x y z => ?_, fun a b x y z => ?_⟩, fun nx => ?_⟩
        · show (upI (upI τ _ _ _) _ _ _).1 p j = _
          rw [up_pl (by omega), up_pl (by omega)]
          exact i1 p j hp
        · show (upI (upI τ _ _ _) _ _ _).1 48 _ = _ ∧ (upI (upI τ _ _ _) _ _ _).1 47 _ = _
          rw [step, up_pl (by decide)]
          by_cases q : D.2 8 k = a ∧ D.2 9 k = b
          · obtain ⟨q1, q2⟩ := q
            subst q1; subst q2
            rw [if_pos ⟨rfl, rfl, by omega, by omega⟩, up_same, up_same]
            exact ⟨rfl, rfl⟩
          · rw [if_neg (by omega), up_ix (by omega), up_ix (by omega), up_pl (by decide)]
            exact i2 a b x y z
        · show (upI (upI τ _ _ _) _ _ _).1 47 _ = _
          rw [up_ix (by omega), up_pl (by decide)]
          exact i3 a b x y z
        · show F_X10_loadPercents_B64 N nx t day k τ = _
          unfold F_X10_loadPercents_B64 F_X10_loadPercents_J142
          rw [c0, if_neg (by omega), inb_in (by omega), c4, c1, c2, ix, if_neg h1, inb_in (by omega), c5.1, if_neg h2, ja_1 (by omega) (by omega), up_pl (by omega), c3]
  · obtain ⟨j, τ⟩ := s
    obtain ⟨rfl, i1, -, -⟩ := hI
    show F_X10_loadPercents_B64 N nx t day (dn D) τ = _
    unfold F_X10_loadPercents_B64
    rw [(i1 t 4 (by omega)).trans T.1, if_pos (Int.le_refl _)]
theorem k_loadPercents (hN : BigN N) (V : Val D) {σ : Sto} {t : Nat} (ht : t ≤ 40) (day : Int) (T : PtsR σ t D) (hm : σ.1 46 5 = dm D) : ∃ σ', F_X10_loadPercents N t day σ = some σ' ∧ (∀ a b : Int, 0 ≤ a → a < b → b < dm D → σ'.1 47 (8 * a + b) = pct D day a b) ∧ ∀ a b : Int, 0 ≤ b → b < a → a < 8 → σ'.1 47 (8 * a + b) = σ.1 47 (8 * a + b) := by
  have v := V.sz
  unfold F_X10_loadPercents
  refine Exists.elim (loop_A (b := fun q nx => F_X10_loadPercents_B2 N nx t day q.1 q.2) (fin := fun s => F_X10_loadPercents_J62 N t day s.2) (N := N) (s0 := (0, σ)) (fun k s => s.1 = k ∧ (∀ p j, p < 47 → s.2.1 p j = σ.1 p j) ∧ (∀ a b : Int, 0 ≤ a → a < k → a < b → b < dm D → s.2.1 47 (8 * a + b) = 0 ∧ s.2.1 48 (8 * a + b) = -1) ∧ ∀ a b : Int, 0 ≤ b → b < a → a < 8 → s.2.1 47 (8 * a + b) = σ.1 47 (8 * a + b)) (dm D) (bigN hN) ⟨rfl, fun _ _ _ => rfl, fun a b x y => by omega, fun _ _ _ _ _ => rfl⟩ (fun k s hk hI => ?_) (fun s hI nx => ?_)) (fun s hs => ?_)
  rotate_right
  · obtain ⟨hI, hF⟩ := hs
    obtain ⟨i0, i1, i2, i3⟩ := hI
    obtain ⟨σ', q1, q2, q3⟩ := k_loadP3 hN V ht day (T.cg (fun a j x y => i1 a j (by omega))) (fun a b x y z => i2 a b x (by omega) y z)
    exact ⟨σ', hF.trans q1, q2, fun a b x y z => (q3 a b x y z).trans (i3 a b x y z)⟩
  · obtain ⟨j, τ⟩ := s
    obtain ⟨rfl, i1, i2, i3⟩ := hI
    refine Exists.elim (loop_X (b := fun x q nx => F_X10_loadPercents_B15 N x nx t day (k : Int) q.1 q.2) (fin := fun x s => x ((k : Int) + 1, s.2)) (N := N) (s0 := (((k : Int) + 1), τ)) (fun i s => s.1 = (k : Int) + 1 + i ∧ (∀ p j, p < 47 → s.2.1 p j = σ.1 p j) ∧ (∀ a b : Int, 0 ≤ a → a < k → a < b → b < dm D → s.2.1 47 (8 * a + b) = 0 ∧ s.2.1 48 (8 * a + b) = -1) ∧ (∀ b : Int, (k : Int) < b → b < (k : Int) + 1 + i → s.2.1 47 (8 * k + b) = 0 ∧ s.2.1 48 (8 * k + b) = -1) ∧ ∀ a b : Int, 0 ≤ b → b < a → a < 8 → s.2.1 47 (8 * a + b) = σ.1 47 (8 * a + b)) (dm D - (k + 1)) (bigN hN) ⟨by show (k : Int) + 1 = (k : Int) + 1 + ((0 : Nat) : Int); omega, i1, i2, fun b x y => by omega, i3⟩ (fun i s hi hI => ?_) (fun s hI x nx => ?_)) (fun s hs => ?_)
    rotate_right
    · obtain ⟨⟨j1, j2, j3, j4, j5⟩, hx⟩ := hs
      refine ⟨((k : Int) + 1, s.2), ⟨by show (k : Int) + 1 = _; omega, j2, fun a b x y z w => ?_, j5⟩, fun nx => ?_⟩
      · by_cases e : a = k
        · subst e; exact j4 b z (by omega)
        · exact j3 a b x (by omega) z w
      · show F_X10_loadPercents_B2 N nx t day (k : Int) τ = _
        unfold F_X10_loadPercents_B2
        rw [i1 46 5 (by omega), hm, if_neg (by omega), ja_1 (by omega) (by omega)]
        exact hx nx
    · obtain ⟨j, τ'⟩ := s
      obtain ⟨rfl, j2, j3, j4, j5⟩ := hI
      have ix : ja (jm (k : Int) 8) ((k : Int) + 1 + i) = 8 * k + ((k : Int) + 1 + i) := ix8 (by omega) (by omega) (by omega) (by omega)
      refine ⟨((k : Int) + 1 + i + 1, upI (upI τ' 47 (8 * k + ((k : Int) + 1 + i)) 0) 48 (8 * k + ((k : Int) + 1 + i)) (-1)), ⟨by show (k : Int) + 1 + i + 1 = _; omega, fun p j hp => ?_, fun a b x y z w => ?_, fun b x y => ?_, fun a b x y z => ?_⟩, fun x nx => ?_⟩
      · show (upI (upI τ' _ _ _) _ _ _).1 p j = _
        rw [up_pl (by omega), up_pl (by omega)]
        exact j2 p j hp
      · show (upI (upI τ' _ _ _) _ _ _).1 47 _ = _ ∧ (upI (upI τ' _ _ _) _ _ _).1 48 _ = _
        rw [up_ix (by omega), up_ix (by omega), up_ix (by omega), up_ix (by omega)]
        exact j3 a b x y z w
      · show (upI (upI τ' _ _ _) _ _ _).1 47 _ = _ ∧ (upI (upI τ' _ _ _) _ _ _).1 48 _ = _
        by_cases e : b = (k : Int) + 1 + i
        · subst e
          rw [up_pl (by decide), up_same, up_same]; exact ⟨rfl, rfl⟩
        · rw [up_ix (by omega), up_ix (by omega), up_ix (by omega), up_ix (by omega)]
          exact j4 b x (by omega)
      · show (upI (upI τ' _ _ _) _ _ _).1 47 _ = _
        rw [up_pl (by decide), up_ix (by omega)]
        exact j5 a b x y z
      · show F_X10_loadPercents_B15 N x nx t day (k : Int) ((k : Int) + 1 + i) τ' = _
        unfold F_X10_loadPercents_B15
        rw [j2 46 5 (by omega), hm, if_neg (by omega), ix, inb_in (by omega), ja_1 (by omega) (by omega)]
    · obtain ⟨j, τ'⟩ := s
      obtain ⟨rfl, j2, -⟩ := hI
      show F_X10_loadPercents_B15 N x nx t day (k : Int) _ τ' = _
      unfold F_X10_loadPercents_B15 F_X10_loadPercents_J56
      rw [j2 46 5 (by omega), hm, if_pos (by omega), ja_1 (by omega) (by omega)]
  · obtain ⟨j, τ⟩ := s
    obtain ⟨rfl, i1, -⟩ := hI
    show F_X10_loadPercents_B2 N nx t day (dm D : Int) τ = _
    unfold F_X10_loadPercents_B2
    rw [i1 46 5 (by omega), hm, if_pos (Int.le_refl _)]
end SHR
