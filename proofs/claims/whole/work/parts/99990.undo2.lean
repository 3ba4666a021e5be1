/-! UNDO, KEEP, BACK -/
section UN2
variable {N : Nat} {σ σ' : Sto} {b : Nat} {D E : Dk}
theorem XC.cg2 (h : XC σ b D) (e : ∀ a j, a ≤ 32 ∨ (52 ≤ a ∧ a ≤ 67) → σ'.1 a j = σ.1 a j) (Z : LowZ σ') : XC σ' b D := by
  have hbb : b + 12 ≤ 28 := by rcases h.1 with q | q <;> omega
  refine ⟨h.1, by rw [e _ _ (by omega)]; exact h.2.1, h.2.2.1.cg (fun a j p q => e a j (by omega)), h.2.2.2.1.cg (fun a j p q => e a j (by omega)), Z, ?_, ?_⟩
  · rcases h.2.2.2.2.2.1 with q | q
    · exact Or.inl (by rw [e _ _ (by omega)]; exact q)
    · exact Or.inr ⟨by rw [e _ _ (by omega)]; exact q.1, ⟨q.2.1.cg (fun a j p q => e a j (by omega)), q.2.2.cg (fun a j p => e a j (by omega))⟩⟩
  · rcases h.2.2.2.2.2.2 with q | q
    · exact Or.inl (by rw [e _ _ (by omega)]; exact q)
    · exact Or.inr ⟨by rw [e _ _ (by omega)]; exact q.1, by rw [e _ _ (by omega)]; exact q.2.1, RunX.cg q.2.2 (fun a j p q => e a j (by omega))⟩
/-- a book of a desk with the same text -/
theorem bok_same {t : Nat} (S : SameT D E) (B : BokR σ t D) (P : PtsR σ' (t + 8) E) (Rs : ∀ p : Int, 0 ≤ p → p < dp D → σ'.1 (t + 7) p = E.2 7 p) (e : ∀ x z, t ≤ x → x ≤ t + 6 → σ'.1 x z = σ.1 x z) : BokR σ' t E := by
  obtain ⟨B1, B2, B3, B4⟩ := B
  refine ⟨?_, fun m m0 m1 => ?_, fun q q0 q1 => ?_, P⟩
  · rw [S.1.1, S.1.2, S.2 0 (by decide), e _ _ (by omega) (by omega), e _ _ (by omega) (by omega), e _ _ (by omega) (by omega), e _ _ (by omega) (by omega), e _ _ (by omega) (by omega), e _ _ (by omega) (by omega)]
    exact B1
  · rw [S.1.1] at m1
    rw [S.2 1 (by decide), S.2 2 (by decide), S.2 3 (by decide), e _ _ (by omega) (by omega), e _ _ (by omega) (by omega), e _ _ (by omega) (by omega)]
    exact B2 m m0 m1
  · rw [S.1.2] at q1
    rw [S.2 4 (by decide), S.2 5 (by decide), S.2 6 (by decide), e _ _ (by omega) (by omega), e _ _ (by omega) (by omega), e _ _ (by omega) (by omega)]
    have := B3 q q0 q1
    exact ⟨this.1, this.2.1, this.2.2.1, Rs q q0 q1⟩
theorem txm_same (S : SameT D E) (T : TxM σ D) : TxM σ E := by
  unfold TxM
  rw [S.1.1, S.1.2, S.2 0 (by decide), S.2 1 (by decide), S.2 2 (by decide), S.2 3 (by decide), S.2 4 (by decide), S.2 5 (by decide), S.2 6 (by decide)]
  exact T
theorem pts_own {t : Nat} (O : OwE D E) (P : PtsR σ t D) : PtsR σ t E := by
  refine ⟨by rw [O.1]; exact P.1, fun k k0 k1 => ?_⟩
  rw [O.1] at k1
  have := O.2 k k0 k1
  rw [this.1, this.2.1, this.2.2.1, this.2.2.2]
  exact P.2 k k0 k1
theorem led_cl {l : Nat} (O : ClE D E) (L : LedR σ l D) : LedR σ l E := by
  refine ⟨by rw [O.1]; exact L.1, fun k k0 k1 => ?_⟩
  rw [O.1] at k1
  have := O.2 k k0 k1
  rw [this.1, this.2.1, this.2.2]
  exact L.2 k k0 k1
/-- a claim put in where it was -/
theorem k_insert (hN : BigN N) (V : Val D) (L : LedR σ 29 D) (hc : dc D < 30) {a : Nat} (ha : a ≤ dc D) (i j n : Int) : ∃ σ', F_X5_insert N 29 a i j n σ = some σ' ∧ σ'.1 29 3 = (dc D : Int) + 1 ∧ (∀ y z, ¬ (29 ≤ y ∧ y ≤ 32) → σ'.1 y z = σ.1 y z) ∧ σ'.2 = σ.2 ∧ (σ'.1 30 a = i ∧ σ'.1 31 a = j ∧ σ'.1 32 a = n) ∧ (∀ y : Nat, 30 ≤ y → y ≤ 32 → ∀ x : Int, 0 ≤ x → x < a → σ'.1 y x = σ.1 y x) ∧ ∀ y : Nat, 30 ≤ y → y ≤ 32 → ∀ x : Int, a < x → x ≤ dc D → σ'.1 y x = σ.1 y (x - 1) := by
  unfold F_X5_insert
  rw [if_neg (by omega), L.1, if_neg (by omega), if_pos (by omega)]
  obtain ⟨s, ⟨h1, h2, h3, h4⟩, h6⟩ := loop_A (b := fun q nx28 => F_X5_insert_B28 N nx28 29 (a : Int) i j n q.1 q.2) (fin := fun s => F_X5_insert_J88 N 29 a i j n s.2) (N := N) (s0 := ((dc D : Int), σ)) (fun k s => s.1 = (dc D : Int) - k ∧ (∀ y z, ¬ (30 ≤ y ∧ y ≤ 32) → s.2.1 y z = σ.1 y z) ∧ (∀ y : Nat, 30 ≤ y → y ≤ 32 → ∀ x : Int, s.2.1 y x = if (dc D : Int) - k < x ∧ x ≤ dc D then σ.1 y (x - 1) else σ.1 y x) ∧ s.2.2 = σ.2) (dc D - a) (bigN hN) ⟨by omega, fun _ _ _ => rfl, fun y y1 y2 x => by rw [if_neg (by omega)], rfl⟩ (fun k s hk hI => by
    obtain ⟨v, τ⟩ := s
    obtain ⟨i1, i2, i3, i4⟩ := hI
    have i1 : v = ((dc D - k : Nat) : Int) := by have : v = (dc D : Int) - k := i1; omega
    generalize hq : dc D - k = q at *
    subst i1
    have i3 : ∀ y : Nat, 30 ≤ y → y ≤ 32 → ∀ x : Int, τ.1 y x = if (dc D : Int) - k < x ∧ x ≤ dc D then σ.1 y (x - 1) else σ.1 y x := i3
    have rd : ∀ y : Nat, 30 ≤ y → y ≤ 32 → τ.1 y ((q : Int) - 1) = σ.1 y ((q : Int) - 1) := fun y a1 a2 => by rw [i3 y a1 a2, if_neg (by omega)]
    refine ⟨((q : Int) - 1, upI (upI (upI τ 30 q (σ.1 30 ((q : Int) - 1))) 31 q (σ.1 31 ((q : Int) - 1))) 32 q (σ.1 32 ((q : Int) - 1))), ⟨by show (q : Int) - 1 = (dc D : Int) - ((k + 1 : Nat) : Int); omega, fun y z p => ?_, fun y a1 a2 x => ?_, i4⟩, fun nx => ?_⟩
    · show (upI (upI (upI τ 30 q _) 31 q _) 32 q _).1 y z = _
      rw [up_pl (by omega), up_pl (by omega), up_pl (by omega)]; exact i2 y z p
    · show (upI (upI (upI τ 30 q _) 31 q _) 32 q _).1 y x = _
      by_cases e : x = q
      · subst e
        rw [if_pos ⟨by omega, by omega⟩]
        rcases (by omega : y = 30 ∨ y = 31 ∨ y = 32) with rfl | rfl | rfl
        · rw [up_pl (by decide), up_pl (by decide), up_same]
        · rw [up_pl (by decide), up_same]
        · rw [up_same]
      · rw [up_ix e, up_ix e, up_ix e, i3 y a1 a2]
        by_cases z : (dc D : Int) - k < x ∧ x ≤ dc D
        · rw [if_pos z, if_pos ⟨by omega, z.2⟩]
        · rw [if_neg z, if_neg (by omega)]
    · show F_X5_insert_B28 N nx 29 a i j n q τ = _
      unfold F_X5_insert_B28
      have u1 : ∀ (w z : Int), (upI τ 30 q w).1 31 z = τ.1 31 z := fun _ _ => up_pl (by decide)
      have u2 : ∀ (w w' z : Int), (upI (upI τ 30 q w) 31 q w').1 32 z = τ.1 32 z := fun _ _ _ => by rw [up_pl (by decide), up_pl (by decide)]
      rw [if_neg (by omega), js_eq ⟨by omega, by omega⟩, inb_in (by omega), inb_in (by omega)]
      show nx ((q : Int) - 1, upI (upI (upI τ 30 q (τ.1 30 ((q : Int) - 1))) 31 q ((upI τ 30 q (τ.1 30 ((q : Int) - 1))).1 31 ((q : Int) - 1))) 32 q ((upI (upI τ 30 q (τ.1 30 ((q : Int) - 1))) 31 q ((upI τ 30 q (τ.1 30 ((q : Int) - 1))).1 31 ((q : Int) - 1))).1 32 ((q : Int) - 1))) = _
      rw [u2, u1, rd 30 (by decide) (by decide), rd 31 (by decide) (by decide), rd 32 (by decide) (by decide)]) (fun s hI nx => by
    obtain ⟨v, τ⟩ := s
    have i1 : v = (dc D : Int) - ((dc D - a : Nat) : Int) := hI.1
    show F_X5_insert_B28 N nx 29 a i j n v τ = F_X5_insert_J88 N 29 a i j n τ
    unfold F_X5_insert_B28
    rw [if_pos (by omega)])
  rw [h6]
  generalize s.2 = τ at h2 h3 h4 ⊢
  show ∃ σ', F_X5_insert_J88 N 29 a i j n τ = some σ' ∧ _
  unfold F_X5_insert_J88
  have e3 : (upI (upI (upI τ 30 (a : Int) i) 31 (a : Int) j) 32 (a : Int) n).1 29 3 = (dc D : Int) := by
    rw [up_pl (by decide), up_pl (by decide), up_pl (by decide), h2 _ _ (by omega)]; exact L.1
  rw [inb_in (by omega)]
  show ∃ σ', some (upI (upI (upI (upI τ 30 (a : Int) i) 31 (a : Int) j) 32 (a : Int) n) 29 3 (ja ((upI (upI (upI τ 30 (a : Int) i) 31 (a : Int) j) 32 (a : Int) n).1 29 3) 1)) = some σ' ∧ _
  rw [e3, ja_1 (by omega) (by omega)]
  have out : ∀ y z, ¬ (29 ≤ y ∧ y ≤ 32) → (upI (upI (upI (upI τ 30 (a : Int) i) 31 (a : Int) j) 32 (a : Int) n) 29 3 ((dc D : Int) + 1)).1 y z = σ.1 y z := fun y z q => by
    rw [up_pl (by omega), up_pl (by omega), up_pl (by omega), up_pl (by omega)]; exact h2 y z (by omega)
  have inn : ∀ y : Nat, 30 ≤ y → y ≤ 32 → ∀ x : Int, x ≠ a → (upI (upI (upI (upI τ 30 (a : Int) i) 31 (a : Int) j) 32 (a : Int) n) 29 3 ((dc D : Int) + 1)).1 y x = τ.1 y x := fun y y1 y2 x hx => by
    rw [up_pl (by omega), up_ix hx, up_ix hx, up_ix hx]
  refine ⟨_, rfl, up_same, out, h4, ⟨?_, ?_, ?_⟩, fun y y1 y2 x x0 x1 => ?_, fun y y1 y2 x x0 x1 => ?_⟩
  · rw [up_pl (by decide), up_pl (by decide), up_pl (by decide), up_same]
  · rw [up_pl (by decide), up_pl (by decide), up_same]
  · rw [up_pl (by decide), up_same]
  · rw [inn y y1 y2 x (by omega), h3 y y1 y2, if_neg (by omega)]
  · rw [inn y y1 y2 x (by omega), h3 y y1 y2, if_pos (by omega)]
theorem x_undo (hN : BigN N) (V : Val D) (X : XC σ b D) {u : Nat} (hu : u ≤ 20) (h33 : σ.1 33 1 = u) (hI : 0 < u → Val E ∧ SameT D E ∧ InvR (hw σ (u - 1) 0) (hw σ (u - 1) 1) (hw σ (u - 1) 2) (hw σ (u - 1) 3) (hw σ (u - 1) 4) D E) : ∃ σ1, F_X11_undo N σ = some ((u : Int) - 1, σ1) ∧ FX σ σ1 ∧ (∀ z, σ1.1 34 z = σ.1 34 z) ∧ ((u = 0 ∧ σ1 = σ) ∨ (0 < u ∧ XC σ1 b E ∧ σ1.1 33 1 = (u : Int) - 1)) := by
  have vz := V.sz
  have hb3 := X.ge
  have hbb : b + 12 ≤ 28 := by rcases X.1 with h | h <;> omega
  unfold F_X11_undo
  rw [h33]
  by_cases h0 : u = 0
  · subst h0
    rw [if_pos (show ((0 : Nat) : Int) = 0 from rfl)]
    exact ⟨σ, rfl, FX.ro RO.rf, fun _ => rfl, Or.inl ⟨rfl, rfl⟩⟩
  · obtain ⟨VE, S, I⟩ := hI (by omega)
    have ez := VE.sz
    rw [if_neg (by omega)]
    unfold F_X2_pop
    have ej : jmax 0 (js (σ.1 33 1) 1) = ((u - 1 : Nat) : Int) := by
      rw [h33, js_eq ⟨by omega, by omega⟩, jmax_eq]
      split <;> omega
    have eq : jm ((upI σ 33 1 ((u - 1 : Nat) : Int)).1 33 1) 5 = 5 * ((u - 1 : Nat) : Int) := by
      rw [up_same, jm_eq ⟨by omega, by omega⟩]; omega
    rw [Option.bind_some, ej, eq]
    generalize hk : u - 1 = k at *
    let τ : Sto := upI σ 33 1 (k : Int)
    have t : ∀ y z, ¬ (y = 33 ∧ z = 1) → τ.1 y z = σ.1 y z := fun y z q => upI_ne q
    have w : ∀ x : Int, τ.1 34 (5 * (k : Int) + x) = hw σ k x := fun x => t _ _ (by omega)
    have w0 : τ.1 34 (5 * (k : Int)) = hw σ k 0 := by have := w 0; rw [Int.add_zero] at this; exact this
    have i1 : ja (5 * (k : Int)) 1 = 5 * k + 1 := ja_eq ⟨by omega, by omega⟩
    have i2 : ja (5 * (k : Int)) 2 = 5 * k + 2 := ja_eq ⟨by omega, by omega⟩
    have i3 : ja (5 * (k : Int)) 3 = 5 * k + 3 := ja_eq ⟨by omega, by omega⟩
    have i4 : ja (5 * (k : Int)) 4 = 5 * k + 4 := ja_eq ⟨by omega, by omega⟩
    have ku : (k : Int) = (u : Int) - 1 := by omega
    -- what is left to show of the store before the caches are forgotten
    have fin : ∀ ρ : Sto, (∀ y z, (y ≤ 2 ∨ (33 ≤ y ∧ y ≤ 50) ∨ 94 ≤ y) → ρ.1 y z = τ.1 y z) → ρ.2 = σ.2 → BokR ρ b E → LedR ρ 29 E → ∃ σ1, F_X11_undo_J144 N ρ = some ((u : Int) - 1, σ1) ∧ FX σ σ1 ∧ (∀ z, σ1.1 34 z = σ.1 34 z) ∧ ((u = 0 ∧ σ1 = σ) ∨ (0 < u ∧ XC σ1 b E ∧ σ1.1 33 1 = (u : Int) - 1)) := fun ρ r1 r2 rB rL => by
      have g : ∀ y z, ¬ (y = 0 ∧ (z = 16 ∨ z = 17)) → (upI (upI ρ 0 16 0) 0 17 0).1 y z = ρ.1 y z := fun y z q => by rw [upI_ne (by omega), upI_ne (by omega)]
      have e33 : (upI (upI ρ 0 16 0) 0 17 0).1 33 1 = (u : Int) - 1 := by rw [g _ _ (by omega), r1 _ _ (by omega)]; show (upI σ 33 1 (k : Int)).1 33 1 = _; rw [up_same, ku]
      unfold F_X11_undo_J144 F_X11_forgetNet
      rw [Option.bind_some, e33]
      refine ⟨_, rfl, fun y z q => ?_, fun z => ?_, Or.inr ⟨by omega, ?_, e33⟩⟩
      · rw [g y z (by omega), r1 y z (by omega), t y z (by omega)]
      · rw [g _ _ (by omega), r1 _ _ (by omega), t _ _ (by omega)]
      · exact XC.mk0 X.1 (by rw [g _ _ (by omega), r1 _ _ (by omega), t _ _ (by omega)]; exact X.2.1) (rB.cg (fun y z q1 q2 => g y z (by omega))) (rL.cg (fun y z q1 q2 => g y z (by omega))) (X.2.2.2.2.1.cg (fun j => by rw [g _ _ (by omega), r1 _ _ (by omega), t _ _ (by omega)]) (fun j => by show ρ.2 49 j = _; rw [r2])) (by rw [up_ix (by decide), up_same]) up_same
    have Bt : BokR τ b D := X.2.2.1.cg (fun y z q1 q2 => t y z (by omega))
    have Lt : LedR τ 29 D := X.2.2.2.1.cg (fun y z q1 q2 => t y z (by omega))
    have bat : ∀ {α : Type} {f : Nat → Option α}, asB (τ.1 0 1) f = f b := fun {α} {f} => by rw [t _ _ (by omega), X.2.1]; exact asB_in X.1
    show ∃ σ1, inb (5 * (k : Int)) 100 (if τ.1 34 (5 * (k : Int)) = 0 then _ else if τ.1 34 (5 * (k : Int)) = 1 then _ else if τ.1 34 (5 * (k : Int)) = 2 then _ else _) = _ ∧ _
    rw [inb_in (by omega), w0]
    rcases I with ⟨I0, I1, I2, I3⟩ | ⟨I0, I1, I2, I3⟩ | ⟨I0, I1, I2, I3⟩ | ⟨I0, I1, I2, I3⟩
    · rw [if_pos I0, i1, inb_in (by omega)]
      have ec : jmax 0 (js (τ.1 29 3) (τ.1 34 (5 * (k : Int) + 1))) = (dc E : Int) := by
        rw [Lt.1, w 1, js_eq ⟨by omega, by omega⟩, jmax_eq]
        split <;> omega
      show ∃ σ1, F_X11_undo_J144 N (upI τ 29 3 (jmax 0 (js (τ.1 29 3) (τ.1 34 (5 * (k : Int) + 1))))) = _ ∧ _
      rw [ec]
      refine fin _ (fun y z q => up_pl (by omega)) rfl ?_ ⟨up_same, fun x x0 x1 => ?_⟩
      · exact bok_same S Bt (pts_own I2 (Bt.2.2.2.cg (fun y z q1 q2 => up_pl (by omega)))) (fun p p0 p1 => by rw [up_pl (by omega), I3 p p0 p1]; exact (Bt.2.2.1 p p0 p1).2.2.2) (fun y z q1 q2 => up_pl (by omega))
      · have := I1.2.2 x x0 x1
        rw [up_pl (by decide), up_pl (by decide), up_pl (by decide), this.1, this.2.1, this.2.2]
        exact Lt.2 x x0 (by omega)
    · obtain ⟨c1, c2, c3, c4, c5, c6⟩ := I1
      obtain ⟨a, ha⟩ : ∃ a : Nat, hw σ k 1 = a := ⟨(hw σ k 1).toNat, by omega⟩
      rw [if_neg (by omega), if_pos I0, i1, inb_in (by omega), i2, inb_in (by omega), i3, inb_in (by omega), i4, inb_in (by omega)]
      show ∃ σ1, (F_X5_insert N 29 (τ.1 34 (5 * (k : Int) + 1)) (τ.1 34 (5 * (k : Int) + 2)) (τ.1 34 (5 * (k : Int) + 3)) (τ.1 34 (5 * (k : Int) + 4)) τ).bind _ = _ ∧ _
      rw [w 1, w 2, w 3, w 4, ha]
      obtain ⟨ρ, d1, d2, d3, d4, d5, d6, d7⟩ := k_insert (N := N) (σ := τ) hN V Lt (by omega) (a := a) (by omega) (hw σ k 2) (hw σ k 3) (hw σ k 4)
      rw [d1, Option.bind_some]
      rw [ha] at c4 c5 c6
      refine fin ρ (fun y z q => d3 y z (by omega)) d4 ?_ ⟨by show ρ.1 29 3 = _; rw [d2, c1]; omega, fun x x0 x1 => ?_⟩
      · exact bok_same S Bt (pts_own I2 (Bt.2.2.2.cg (fun y z q1 q2 => d3 y z (by omega)))) (fun p p0 p1 => by rw [d3 _ _ (by omega), I3 p p0 p1]; exact (Bt.2.2.1 p p0 p1).2.2.2) (fun y z q1 q2 => d3 y z (by omega))
      · show ρ.1 30 x = _ ∧ ρ.1 31 x = _ ∧ ρ.1 32 x = _
        rcases Int.lt_trichotomy x a with z | z | z
        · have := c5 x x0 z
          rw [d6 30 (by decide) (by decide) x x0 z, d6 31 (by decide) (by decide) x x0 z, d6 32 (by decide) (by decide) x x0 z, this.1, this.2.1, this.2.2]
          exact Lt.2 x x0 (by omega)
        · subst z
          rw [d5.1, d5.2.1, d5.2.2, c4.1, c4.2.1, c4.2.2]
          exact ⟨rfl, rfl, rfl⟩
        · have := c6 x z x1
          rw [d7 30 (by decide) (by decide) x z (by omega), d7 31 (by decide) (by decide) x z (by omega), d7 32 (by decide) (by decide) x z (by omega), this.1, this.2.1, this.2.2]
          exact Lt.2 (x - 1) (by omega) (by omega)
    · rw [if_neg (by omega), if_neg (by omega), if_pos I0, bat, i1, inb_in (by omega), i2, inb_in (by omega)]
      show ∃ σ1, inb (τ.1 34 (5 * (k : Int) + 1)) 12 (F_X11_undo_J144 N (upI τ (b + 7) (τ.1 34 (5 * (k : Int) + 1)) (τ.1 34 (5 * (k : Int) + 2)))) = _ ∧ _
      rw [w 1, w 2]
      have hp := I1.1
      rw [inb_in (by omega)]
      refine fin _ (fun y z q => up_pl (by omega)) rfl ?_ (led_cl I2 (Lt.cg (fun y z q1 q2 => up_pl (by omega))))
      refine bok_same S Bt (pts_own I3 (Bt.2.2.2.cg (fun y z q1 q2 => up_pl (by omega)))) (fun p p0 p1 => ?_) (fun y z q1 q2 => up_pl (by omega))
      by_cases e : p = hw σ k 1
      · rw [e, up_same]; exact I1.2.1.symm
      · rw [up_ix e, I1.2.2 p p0 p1 e]; exact (Bt.2.2.1 p p0 p1).2.2.2
    · rw [if_neg (by omega), if_neg (by omega), if_neg (by omega), bat]
      unfold F_X7_dropLast
      rw [Option.bind_some]
      have ec : jmax 0 (js (τ.1 (b + 8) 4) 1) = (dn E : Int) := by
        rw [Bt.2.2.2.1, js_eq ⟨by omega, by omega⟩, jmax_eq]
        have := I1.1
        split <;> omega
      show ∃ σ1, F_X11_undo_J144 N (upI τ (b + 8) 4 (jmax 0 (js (τ.1 (b + 8) 4) 1))) = _ ∧ _
      rw [ec]
      refine fin _ (fun y z q => up_pl (by omega)) rfl ?_ (led_cl I2 (Lt.cg (fun y z q1 q2 => up_pl (by omega))))
      refine bok_same S Bt ⟨up_same, fun x x0 x1 => ?_⟩ (fun p p0 p1 => by rw [up_pl (by omega), I3 p p0 p1]; exact (Bt.2.2.1 p p0 p1).2.2.2) (fun y z q1 q2 => up_pl (by omega))
      have := I1.2 x x0 x1
      have l := Bt.2.2.2.2 x x0 (by have := I1.1; omega)
      have u : ∀ y : Nat, y ≠ b + 8 → (upI τ (b + 8) 4 (dn E : Int)).1 y x = τ.1 y x := fun y hy => up_pl hy
      rw [u _ (by omega), u _ (by omega), u _ (by omega), u _ (by omega), this.1, this.2.1, this.2.2.1, this.2.2.2]
      exact l
theorem m_undo (hN : BigN N) (V : Val D) (M : MK σ D) {u : Nat} (hu : u ≤ 20) (h25 : σ.1 94 25 = u) (hI : 0 < u → Val E ∧ SameT D E ∧ BkM σ (3 + ((u - 1 : Nat) : Int)) E) : ∃ σ1, F_X12_undo N σ = some ((u : Int) - 1, σ1) ∧ FM σ σ1 ∧ (∀ z, 600 ≤ z → σ1.1 101 z = σ.1 101 z) ∧ ((u = 0 ∧ MK σ1 D ∧ MO σ σ1) ∨ (0 < u ∧ MK σ1 E ∧ σ1.1 94 25 = (u : Int) - 1)) := by
  obtain ⟨M', m'⟩ := M.up2 V 0
  have e25 : (upI σ 94 2 0).1 94 25 = u := by rw [up_ix (by decide)]; exact h25
  unfold F_X12_undo
  rw [e25]
  by_cases h0 : u = 0
  · subst h0
    rw [if_pos (show ((0 : Nat) : Int) = 0 from rfl)]
    exact ⟨_, rfl, FM.mo m', fun z _ => up_pl (by decide), Or.inl ⟨rfl, M', m'⟩⟩
  · obtain ⟨VE, S, B⟩ := hI (by omega)
    rw [if_neg (by omega), js_eq ⟨by omega, by omega⟩]
    generalize hk : u - 1 = k at *
    rw [show (u : Int) - 1 = (k : Int) by omega, up_same, show ja 3 (k : Int) = ((3 + k : Nat) : Int) by rw [ja_eq ⟨by omega, by omega⟩]; omega]
    obtain ⟨σ1, c1, c2, c3, c4⟩ := m_copyBank (N := N) (σ := upI (upI σ 94 2 0) 94 25 (k : Int)) hN (f := 3 + k) (t := 0) (by omega) (by omega) (by omega)
    have c1 : F_X12_copyBank N ((3 + k : Nat) : Int) 0 (upI (upI σ 94 2 0) 94 25 (k : Int)) = some σ1 := c1
    have fr : ∀ y z, ¬ (y = 101 ∧ 0 ≤ z ∧ z < 200) → ¬ (y = 94 ∧ (z = 2 ∨ z = 25)) → σ1.1 y z = σ.1 y z := fun y z q1 q2 => by
      rw [c3 y z (by omega), upI_ne (by omega), upI_ne (by omega)]
    have k25 : σ1.1 94 25 = (k : Int) := by rw [c3 _ _ (by omega), up_same]
    rw [c1, Option.bind_some, k25]
    have B' : BkM σ1 0 E := BkM.cp (σ := σ) (f := 3 + (k : Int)) VE B (fun x x0 x1 => by
      have := c2 x x0 x1
      rw [show (200 : Int) * ((3 + k : Nat) : Int) + x = 200 * (3 + (k : Int)) + x by omega, up_pl (by decide), up_pl (by decide)] at this
      exact this)
    refine ⟨σ1, rfl, ⟨fun y z q => fr y z (by omega) (by omega), fun j => by rw [c4]; rfl⟩, fun z hz => fr _ _ (by omega) (by omega), Or.inr ⟨by omega, ?_, k25⟩⟩
    exact M.mut (txm_same S) (by rw [S.2 0 (by decide)]) B' (fun y z q => fr y z (by omega) (by omega))
/-! KEEP, BACK -/
theorem k_copyPts {t t2 : Nat} (V : Val D) (h : t2 + 4 < t ∨ t + 4 < t2) (T : PtsR σ t2 D) : ∃ σ', F_X7_copy N t t2 σ = some σ' ∧ PtsR σ' t D ∧ (∀ a z, ¬ (t ≤ a ∧ a ≤ t + 4) → σ'.1 a z = σ.1 a z) ∧ σ'.2 = σ.2 := by
  have vz := V.sz
  have cp : ∀ (τ : Sto) (ks kd a : Nat) (j n : Int), (cpI τ ks 0 kd 0 n).1 a j = if a = kd ∧ 0 ≤ j ∧ j < 0 + n then τ.1 ks (0 + (j - 0)) else τ.1 a j := fun _ _ _ _ _ _ => rfl
  unfold F_X7_copy
  rw [grd_in (by decide), grd_in (by decide), grd_in (by decide), grd_in (by decide)]
  refine ⟨_, rfl, ⟨?_, fun k k0 k1 => ⟨?_, ?_, ?_, ?_⟩⟩, fun a z q => ?_, rfl⟩
  · rw [up_same]
    rw [cp, if_neg (by omega), cp, if_neg (by omega), cp, if_neg (by omega), cp, if_neg (by omega)]; exact T.1
  · rw [up_pl (by omega), cp, if_neg (by omega), cp, if_neg (by omega), cp, if_neg (by omega), cp, if_pos ⟨rfl, by omega, by omega⟩, show 0 + (k - 0) = k by omega]; exact (T.2 k k0 k1).1
  · rw [up_pl (by omega), cp, if_neg (by omega), cp, if_neg (by omega), cp, if_pos ⟨rfl, by omega, by omega⟩, cp, if_neg (by omega), show 0 + (k - 0) = k by omega]; exact (T.2 k k0 k1).2.1
  · rw [up_pl (by omega), cp, if_neg (by omega), cp, if_pos ⟨rfl, by omega, by omega⟩, cp, if_neg (by omega), cp, if_neg (by omega), show 0 + (k - 0) = k by omega]; exact (T.2 k k0 k1).2.2.1
  · rw [up_pl (by omega), cp, if_pos ⟨rfl, by omega, by omega⟩, cp, if_neg (by omega), cp, if_neg (by omega), cp, if_neg (by omega), show 0 + (k - 0) = k by omega]; exact (T.2 k k0 k1).2.2.2
  · rw [upI_ne (by omega), cp, if_neg (by omega), cp, if_neg (by omega), cp, if_neg (by omega), cp, if_neg (by omega)]
/-- the image: its claims, parts, results -/
def ImX (σ : Sto) (D : Dk) : Prop := LedR σ 36 D ∧ PtsR σ 40 D ∧ ∀ p : Int, 0 ≤ p → p < dp D → σ.1 45 p = D.2 7 p
theorem x_keep (V : Val D) (X : XC σ b D) : ∃ σ1, F_X11_keep N σ = some ((dc D : Int), σ1) ∧ XC σ1 b D ∧ (∀ y z, y ≤ 34 ∨ 46 ≤ y → σ1.1 y z = σ.1 y z) ∧ σ1.1 35 3 = 1 ∧ ImX σ1 D := by
  have vz := V.sz
  have hb3 := X.ge
  have hbb : b + 12 ≤ 28 := by rcases X.1 with h | h <;> omega
  unfold F_X11_keep
  have u0 : ∀ y z, ¬ (y = 35 ∧ z = 3) → (upI σ 35 3 1).1 y z = σ.1 y z := fun y z q => upI_ne q
  obtain ⟨σ1, a1, a2, a3, a4⟩ := k_copyLed (N := N) (σ := upI σ 35 3 1) (l := 36) (l2 := 29) V (by omega) (X.2.2.2.1.cg (fun y z q1 q2 => u0 y z (by omega)))
  have e01 : σ1.1 0 1 = b := by rw [a3 _ _ (by omega), u0 _ _ (by omega)]; exact X.2.1
  rw [a1, Option.bind_some, e01, asB_in X.1]
  obtain ⟨σ2, b1, b2, b3, b4⟩ := k_copyPts (N := N) (σ := σ1) (t := 40) (t2 := b + 8) V (by omega) (X.2.2.1.2.2.2.cg (fun y z q1 q2 => by rw [a3 y z (by omega), u0 y z (by omega)]))
  have e01' : σ2.1 0 1 = b := (b3 _ _ (by omega)).trans e01
  rw [b1, Option.bind_some, e01', asB_in X.1, grd_in (by decide)]
  have cp : ∀ (a : Nat) (j : Int), (cpI σ2 (b + 7) 0 45 0 12).1 a j = if a = 45 ∧ 0 ≤ j ∧ j < 0 + 12 then σ2.1 (b + 7) (0 + (j - 0)) else σ2.1 a j := fun _ _ => rfl
  have fr : ∀ y z, ¬ (35 ≤ y ∧ y ≤ 45) → (cpI σ2 (b + 7) 0 45 0 12).1 y z = σ.1 y z := fun y z q => by rw [cp, if_neg (by omega), b3 y z (by omega), a3 y z (by omega), u0 y z (by omega)]
  refine ⟨_, by rw [fr _ _ (by omega), X.2.2.2.1.1], X.cg2 (fun y z q => fr y z (by omega)) (X.2.2.2.2.1.cg (fun j => fr _ _ (by omega)) (fun j => by show σ2.2 49 j = _; rw [b4, a4]; rfl)), fun y z q => fr y z (by omega), ?_, ?_, ?_, fun p p0 p1 => ?_⟩
  · rw [cp, if_neg (by omega), b3 _ _ (by omega), a3 _ _ (by omega), up_same]
  · exact a2.cg (fun y z q1 q2 => by rw [cp, if_neg (by omega), b3 y z (by omega)])
  · exact b2.cg (fun y z q1 q2 => by rw [cp, if_neg (by omega)])
  · rw [cp, if_pos ⟨rfl, by omega, by omega⟩, show 0 + (p - 0) = p by omega, b3 _ _ (by omega), a3 _ _ (by omega), u0 _ _ (by omega)]
    exact (X.2.2.1.2.2.1 p p0 p1).2.2.2
theorem m_keep (hN : BigN N) (V : Val D) (M : MK σ D) : ∃ σ1, F_X12_keep N σ = some ((dc D : Int), σ1) ∧ MK σ1 D ∧ (∀ y z, ¬ (y = 101 ∧ 400 ≤ z ∧ z < 600) → ¬ (y = 94 ∧ (z = 2 ∨ z = 26)) → σ1.1 y z = σ.1 y z) ∧ σ1.2 = σ.2 ∧ σ1.1 94 26 = 1 ∧ BkM σ1 2 D := by
  obtain ⟨M', m'⟩ := M.up2 V 0
  obtain ⟨σ1, c1, c2, c3, c4⟩ := m_copyBank (N := N) (σ := upI σ 94 2 0) hN (f := 0) (t := 2) (by omega) (by omega) (by omega)
  have c1 : F_X12_copyBank N 0 2 (upI σ 94 2 0) = some σ1 := c1
  have fr : ∀ y z, ¬ (y = 101 ∧ 400 ≤ z ∧ z < 600) → ¬ (y = 94 ∧ (z = 2 ∨ z = 26)) → (upI σ1 94 26 1).1 y z = σ.1 y z := fun y z q1 q2 => by rw [upI_ne (by omega), c3 y z (by omega), upI_ne (by omega)]
  have B0 : BkM (upI σ1 94 26 1) 0 D := M.b0.cg (fun j j0 j1 => fr _ _ (by omega) (by omega)) V
  have Mf : MK (upI σ1 94 26 1) D := M.mut id rfl B0 (fun y z q => fr y z (by omega) (by omega))
  unfold F_X12_keep
  rw [c1, Option.bind_some, m_of0 Mf.1, Option.bind_some]
  exact ⟨_, rfl, Mf, fr, c4, up_same, (BkM.cp (σ := upI σ 94 2 0) (σ' := σ1) (f := 0) (t := 2) V M'.b0 (fun x x0 x1 => c2 x x0 x1)).cg (fun j _ _ => up_pl (by decide)) V⟩
theorem x_back (V : Val D) (X : XC σ b D) (VE : Val E) (S : SameT D E) (h35 : σ.1 35 3 = 1) (Im : ImX σ E) : ∃ σ1, F_X11_back N σ = some ((dc E : Int), σ1) ∧ XC σ1 b E ∧ FX σ σ1 ∧ σ1.1 33 1 = 0 := by
  have vz := V.sz
  have ez := VE.sz
  have hb3 := X.ge
  have hbb : b + 12 ≤ 28 := by rcases X.1 with h | h <;> omega
  unfold F_X11_back
  rw [h35, if_neg (by decide)]
  obtain ⟨σ1, a1, a2, a3, a4⟩ := k_copyLed (N := N) (σ := σ) (l := 29) (l2 := 36) VE (by omega) Im.1
  have e01 : σ1.1 0 1 = b := by rw [a3 _ _ (by omega)]; exact X.2.1
  rw [a1, Option.bind_some, e01, asB_in X.1]
  obtain ⟨σ2, b1, b2, b3, b4⟩ := k_copyPts (N := N) (σ := σ1) (t := b + 8) (t2 := 40) VE (by omega) (Im.2.1.cg (fun y z q1 q2 => a3 y z (by omega)))
  have e01' : σ2.1 0 1 = b := (b3 _ _ (by omega)).trans e01
  rw [b1, Option.bind_some, e01', asB_in X.1, grd_in (by decide)]
  have cp : ∀ (a : Nat) (j : Int), (cpI σ2 45 0 (b + 7) 0 12).1 a j = if a = b + 7 ∧ 0 ≤ j ∧ j < 0 + 12 then σ2.1 45 (0 + (j - 0)) else σ2.1 a j := fun _ _ => rfl
  unfold F_X2_clear F_X11_forgetNet
  rw [Option.bind_some, Option.bind_some]
  let τ : Sto := upI (upI (upI (cpI σ2 45 0 (b + 7) 0 12) 33 1 0) 0 16 0) 0 17 0
  have g : ∀ y z, ¬ (y = 0 ∧ (z = 16 ∨ z = 17)) → ¬ (y = 33 ∧ z = 1) → τ.1 y z = (cpI σ2 45 0 (b + 7) 0 12).1 y z := fun y z q1 q2 => by
    show (upI (upI (upI (cpI σ2 45 0 (b + 7) 0 12) 33 1 0) 0 16 0) 0 17 0).1 y z = _
    rw [upI_ne (by omega), upI_ne (by omega), upI_ne q2]
  have fr : ∀ y z, ¬ (y = 0 ∧ (z = 16 ∨ z = 17)) → ¬ (y = 33 ∧ z = 1) → ¬ (29 ≤ y ∧ y ≤ 32) → ¬ (b + 7 ≤ y ∧ y ≤ b + 12) → τ.1 y z = σ.1 y z := fun y z q1 q2 q3 q4 => by rw [g y z q1 q2, cp, if_neg (by omega), b3 y z (by omega), a3 y z (by omega)]
  have L : LedR τ 29 E := a2.cg (fun y z q1 q2 => by rw [g y z (by omega) (by omega), cp, if_neg (by omega), b3 y z (by omega)])
  have P : PtsR τ (b + 8) E := b2.cg (fun y z q1 q2 => by rw [g y z (by omega) (by omega), cp, if_neg (by omega)])
  have Rs : ∀ p : Int, 0 ≤ p → p < dp D → τ.1 (b + 7) p = E.2 7 p := fun p p0 p1 => by
    rw [g _ _ (by omega) (by omega), cp, if_pos ⟨rfl, by omega, by omega⟩, show 0 + (p - 0) = p by omega, b3 _ _ (by omega), a3 _ _ (by omega)]
    exact Im.2.2 p p0 (by rw [S.1.2]; exact p1)
  show ∃ σ1, some (τ.1 29 3, τ) = some ((dc E : Int), σ1) ∧ _
  refine ⟨τ, by rw [L.1], ?_, fun y z q => fr y z (by omega) (by omega) (by omega) (by omega), ?_⟩
  · exact XC.mk0 X.1 ((fr _ _ (by omega) (by omega) (by omega) (by omega)).trans X.2.1) (bok_same S X.2.2.1 P Rs (fun y z q1 q2 => fr y z (by omega) (by omega) (by omega) (by omega))) L (X.2.2.2.2.1.cg (fun j => fr _ _ (by omega) (by omega) (by omega) (by omega)) (fun j => by show σ2.2 49 j = _; rw [b4, a4])) (by show (upI (upI _ 0 16 0) 0 17 0).1 0 16 = 0; rw [up_ix (by decide), up_same]) up_same
  · show (upI (upI (upI (cpI σ2 45 0 (b + 7) 0 12) 33 1 0) 0 16 0) 0 17 0).1 33 1 = 0
    rw [up_pl (by decide), up_pl (by decide), up_same]
theorem m_back (hN : BigN N) (V : Val D) (M : MK σ D) (VE : Val E) (S : SameT D E) (h26 : σ.1 94 26 = 1) (B : BkM σ 2 E) : ∃ σ1, F_X12_back N σ = some ((dc E : Int), σ1) ∧ MK σ1 E ∧ FM σ σ1 ∧ σ1.1 94 25 = 0 := by
  obtain ⟨M', m'⟩ := M.up2 V 0
  have e26 : (upI σ 94 2 0).1 94 26 = 1 := by rw [up_ix (by decide)]; exact h26
  obtain ⟨σ1, c1, c2, c3, c4⟩ := m_copyBank (N := N) (σ := upI σ 94 2 0) hN (f := 2) (t := 0) (by omega) (by omega) (by omega)
  have c1 : F_X12_copyBank N 2 0 (upI σ 94 2 0) = some σ1 := c1
  have fr : ∀ y z, ¬ (y = 101 ∧ 0 ≤ z ∧ z < 200) → ¬ (y = 94 ∧ (z = 2 ∨ z = 25)) → (upI σ1 94 25 0).1 y z = σ.1 y z := fun y z q1 q2 => by rw [upI_ne (by omega), c3 y z (by omega), upI_ne (by omega)]
  have B0 : BkM (upI σ1 94 25 0) 0 E := (BkM.cp (σ := upI σ 94 2 0) (σ' := σ1) (f := 2) (t := 0) VE (B.cg (fun j _ _ => up_pl (by decide)) VE) (fun x x0 x1 => c2 x x0 x1)).cg (fun j _ _ => up_pl (by decide)) VE
  have Mf : MK (upI σ1 94 25 0) E := M.mut (txm_same S) (by rw [S.2 0 (by decide)]) B0 (fun y z q => fr y z (by omega) (by omega))
  unfold F_X12_back
  rw [e26, if_neg (by decide), c1, Option.bind_some, m_of0 Mf.1, Option.bind_some]
  exact ⟨_, rfl, Mf, ⟨fun y z q => fr y z (by omega) (by omega), fun j => by show σ1.2 49 j = _; rw [c4]; rfl⟩, up_same⟩
end UN2
