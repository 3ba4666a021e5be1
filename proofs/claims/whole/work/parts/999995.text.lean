/-! TEXT: both read it alike -/
section TEXT
variable {N : Nat} {c c' m m' σ σ' : Sto} {b n : Nat} {C : Nat → Int} {D E : Dk}
def E0 : Dk := ((0, 0, 0, 0), fun r x => if r = 0 ∧ x = 0 then 75 else 0)
theorem E0_val : Val E0 := by
  refine ⟨⟨by decide, by decide, by decide, by decide⟩, ⟨⟨by decide, by decide⟩, ⟨by decide, by decide⟩, ⟨by decide, by decide⟩, ⟨by decide, by decide⟩⟩, fun k k0 k1 => ?_, fun k k0 k1 => ?_, fun k k0 k1 => ?_, fun k k0 k1 => ?_⟩
  all_goals
    have k1 : k < ((0 : Nat) : Int) := k1
    omega
def FC2 (b : Nat) (c c' : Sto) : Prop := (∀ y z, y ≠ 1 → ¬ (b ≤ y ∧ y ≤ b + 12) → c'.1 y z = c.1 y z) ∧ c'.2 = c.2 ∧ c'.1 1 1 = 0
def FM2 (m m' : Sto) : Prop := (∀ y z, ¬ (y = 94 ∧ (z = 1 ∨ z = 2 ∨ (4 ≤ z ∧ z ≤ 10) ∨ z = 12 ∨ z = 15 ∨ z = 18 ∨ z = 21 ∨ z = 22)) → ¬ (y = 97 ∧ 24 ≤ z) → ¬ (y = 98 ∧ 48 ≤ z) → ¬ (y = 99 ∧ 64 ≤ z) → ¬ (y = 100 ∧ 4 ≤ z) → m'.1 y z = m.1 y z) ∧ m'.2 = m.2 ∧ m'.1 94 1 = 0
def mTail (N n : Nat) (m : Sto) : Option (Int × Sto) := (F_X12_plain N (upI (upI (upI (upI (upI (upI m 94 2 0) 94 6 (n : Int)) 94 1 0) 94 4 0) 94 5 (-1)) 94 7 0)).bind (fun q3 => (F_X12_token N q3).bind (fun q4 => loopK (fun q nx55 => F_X12_text_B55 N nx55 q.1 q.2) N (0, q4)))
theorem n_read (hN : BigN N) (hb : b = 3 ∨ b = 16) (hn : n ≤ 700) (hc : ∀ k : Nat, k < n → c.1 2 k = C k) (hm : ∀ k : Nat, k < n → (-128 ≤ C k ∧ C k ≤ 127) ∧ m.1 95 k = C k % 256) (hw : ∀ k : Nat, k < 41 → m.1 96 k = wrdC k) : (∃ c' m' E, ∃ L : Int, F_X8_read N b n c = some (1, c') ∧ mTail N n m = F_X12_text_J77 N L m' ∧ TX c' m' b n C E L ∧ FC2 b c c' ∧ FM2 m m') ∨ (∃ c' m', F_X8_read N b n c = some (0, c') ∧ mTail N n m = some (-1, m') ∧ (c'.1 1 9 = m'.1 94 4 ∧ c'.1 1 10 = m'.1 94 5) ∧ FC2 b c c' ∧ FM2 m m') := by
  let c1 : Sto := upI (upI (upI (upI (upI (upI (upI c 1 2 (n : Int)) 1 3 0) 1 1 0) 1 7 0) 1 8 0) 1 9 0) 1 10 (-1)
  let c2 : Sto := upI (upI (upI (upI (upI (upI (upI c1 b 8 0) b 9 0) (b + 8) 4 0) b 10 75) b 11 0) b 12 0) b 13 0
  have f2 : ∀ y z, ¬ (b ≤ y ∧ y ≤ b + 12) → c2.1 y z = c1.1 y z := fun y z q => by
    show (upI (upI (upI (upI (upI (upI (upI c1 b 8 0) b 9 0) (b + 8) 4 0) b 10 75) b 11 0) b 12 0) b 13 0).1 y z = _
    rw [up_pl (by omega), up_pl (by omega), up_pl (by omega), up_pl (by omega), up_pl (by omega), up_pl (by omega), up_pl (by omega)]
  have f1 : ∀ y z, y ≠ 1 → c1.1 y z = c.1 y z := fun y z q => by
    show (upI (upI (upI (upI (upI (upI (upI c 1 2 (n : Int)) 1 3 0) 1 1 0) 1 7 0) 1 8 0) 1 9 0) 1 10 (-1)).1 y z = _
    rw [up_pl q, up_pl q, up_pl q, up_pl q, up_pl q, up_pl q, up_pl q]
  have s2 : c1.1 1 2 = n := by show (upI (upI (upI (upI (upI (upI (upI c 1 2 (n : Int)) 1 3 0) 1 1 0) 1 7 0) 1 8 0) 1 9 0) 1 10 (-1)).1 1 2 = _; rw [up_ix (by decide), up_ix (by decide), up_ix (by decide), up_ix (by decide), up_ix (by decide), up_ix (by decide), up_same]
  have s3 : c1.1 1 3 = 0 := by show (upI (upI (upI (upI (upI (upI (upI c 1 2 (n : Int)) 1 3 0) 1 1 0) 1 7 0) 1 8 0) 1 9 0) 1 10 (-1)).1 1 3 = _; rw [up_ix (by decide), up_ix (by decide), up_ix (by decide), up_ix (by decide), up_ix (by decide), up_same]
  have s1 : c1.1 1 1 = 0 := by show (upI (upI (upI (upI (upI (upI (upI c 1 2 (n : Int)) 1 3 0) 1 1 0) 1 7 0) 1 8 0) 1 9 0) 1 10 (-1)).1 1 1 = _; rw [up_ix (by decide), up_ix (by decide), up_ix (by decide), up_ix (by decide), up_same]
  have s7 : c1.1 1 7 = 0 := by show (upI (upI (upI (upI (upI (upI (upI c 1 2 (n : Int)) 1 3 0) 1 1 0) 1 7 0) 1 8 0) 1 9 0) 1 10 (-1)).1 1 7 = _; rw [up_ix (by decide), up_ix (by decide), up_ix (by decide), up_same]
  have s8 : c1.1 1 8 = 0 := by show (upI (upI (upI (upI (upI (upI (upI c 1 2 (n : Int)) 1 3 0) 1 1 0) 1 7 0) 1 8 0) 1 9 0) 1 10 (-1)).1 1 8 = _; rw [up_ix (by decide), up_ix (by decide), up_same]
  have s9 : c1.1 1 9 = 0 := by show (upI (upI (upI (upI (upI (upI (upI c 1 2 (n : Int)) 1 3 0) 1 1 0) 1 7 0) 1 8 0) 1 9 0) 1 10 (-1)).1 1 9 = _; rw [up_ix (by decide), up_same]
  have s10 : c1.1 1 10 = -1 := up_same
  let m1 : Sto := upI (upI (upI (upI (upI (upI m 94 2 0) 94 6 (n : Int)) 94 1 0) 94 4 0) 94 5 (-1)) 94 7 0
  let m2 : Sto := upI (upI (upI (upI (upI (upI (upI (upI m1 94 12 0) 94 15 0) 94 18 0) 100 4 75) 100 5 0) 100 6 0) 100 7 0) 94 21 0
  have g1 : ∀ y z, ¬ (y = 94 ∧ (z = 1 ∨ z = 2 ∨ (4 ≤ z ∧ z ≤ 10))) → m1.1 y z = m.1 y z := fun y z q => by
    show (upI (upI (upI (upI (upI (upI m 94 2 0) 94 6 (n : Int)) 94 1 0) 94 4 0) 94 5 (-1)) 94 7 0).1 y z = _
    rw [upI_ne (by omega), upI_ne (by omega), upI_ne (by omega), upI_ne (by omega), upI_ne (by omega), upI_ne (by omega)]
  have g2 : ∀ y z, ¬ (y = 94 ∧ (z = 12 ∨ z = 15 ∨ z = 18 ∨ z = 21)) → ¬ (y = 100 ∧ 4 ≤ z) → m2.1 y z = m1.1 y z := fun y z q q' => by
    show (upI (upI (upI (upI (upI (upI (upI (upI m1 94 12 0) 94 15 0) 94 18 0) 100 4 75) 100 5 0) 100 6 0) 100 7 0) 94 21 0).1 y z = _
    rw [upI_ne (by omega), upI_ne (by omega), upI_ne (by omega), upI_ne (by omega), upI_ne (by omega), upI_ne (by omega), upI_ne (by omega), upI_ne (by omega)]
  have t6 : m1.1 94 6 = n := by show (upI (upI (upI (upI (upI (upI m 94 2 0) 94 6 (n : Int)) 94 1 0) 94 4 0) 94 5 (-1)) 94 7 0).1 94 6 = _; rw [up_ix (by decide), up_ix (by decide), up_ix (by decide), up_ix (by decide), up_same]
  have t1 : m1.1 94 1 = 0 := by show (upI (upI (upI (upI (upI (upI m 94 2 0) 94 6 (n : Int)) 94 1 0) 94 4 0) 94 5 (-1)) 94 7 0).1 94 1 = _; rw [up_ix (by decide), up_ix (by decide), up_ix (by decide), up_same]
  have t4 : m1.1 94 4 = 0 := by show (upI (upI (upI (upI (upI (upI m 94 2 0) 94 6 (n : Int)) 94 1 0) 94 4 0) 94 5 (-1)) 94 7 0).1 94 4 = _; rw [up_ix (by decide), up_ix (by decide), up_same]
  have t5 : m1.1 94 5 = -1 := by show (upI (upI (upI (upI (upI (upI m 94 2 0) 94 6 (n : Int)) 94 1 0) 94 4 0) 94 5 (-1)) 94 7 0).1 94 5 = _; rw [up_ix (by decide), up_same]
  have t7 : m1.1 94 7 = 0 := up_same
  have B : BX c2 n C := ⟨hn, by rw [f2 _ _ (by omega)]; exact s2, fun k hk => by rw [f2 _ _ (by omega), f1 _ _ (by decide)]; exact hc k hk⟩
  have B' : BM m2 n C := ⟨hn, by rw [g2 _ _ (by omega) (by omega)]; exact t6, fun k hk => ⟨(hm k hk).1, by rw [g2 _ _ (by omega) (by omega), g1 _ _ (by omega)]; exact (hm k hk).2⟩, fun k hk => by rw [g2 _ _ (by omega) (by omega), g1 _ _ (by omega)]; exact hw k hk⟩
  have T : TX c2 m2 b n C E0 0 := by
    refine ⟨B, B', ⟨⟨?_, ?_, ?_, ?_, ?_, ?_⟩, fun k k0 k1 => ?_, fun k k0 k1 => ?_, ?_, fun k k0 k1 => ?_⟩, ⟨⟨?_, ?_, ?_, ?_, ?_, ?_, ?_⟩, fun k k0 k1 => ?_, fun k k0 k1 => ?_, fun k k0 k1 => ?_⟩, E0_val, rfl, by decide, ?_, ?_, ?_, ?_, hb⟩
    · show (upI (upI (upI (upI (upI (upI (upI c1 b 8 0) b 9 0) (b + 8) 4 0) b 10 75) b 11 0) b 12 0) b 13 0).1 b 8 = 0
      rw [up_ix (by decide), up_ix (by decide), up_ix (by decide), up_ix (by decide), up_ix (by decide), up_ix (by decide), up_same]
    · show (upI (upI (upI (upI (upI (upI (upI c1 b 8 0) b 9 0) (b + 8) 4 0) b 10 75) b 11 0) b 12 0) b 13 0).1 b 9 = 0
      rw [up_ix (by decide), up_ix (by decide), up_ix (by decide), up_ix (by decide), up_ix (by decide), up_same]
    · show (upI (upI (upI (upI (upI (upI (upI c1 b 8 0) b 9 0) (b + 8) 4 0) b 10 75) b 11 0) b 12 0) b 13 0).1 b 10 = 75
      rw [up_ix (by decide), up_ix (by decide), up_ix (by decide), up_same]
    · show (upI (upI (upI (upI (upI (upI (upI c1 b 8 0) b 9 0) (b + 8) 4 0) b 10 75) b 11 0) b 12 0) b 13 0).1 b 11 = 0
      rw [up_ix (by decide), up_ix (by decide), up_same]
    · show (upI (upI (upI (upI (upI (upI (upI c1 b 8 0) b 9 0) (b + 8) 4 0) b 10 75) b 11 0) b 12 0) b 13 0).1 b 12 = 0
      rw [up_ix (by decide), up_same]
    · exact up_same
    · have k1 : k < ((0 : Nat) : Int) := k1
      omega
    · have k1 : k < ((0 : Nat) : Int) := k1
      omega
    · show (upI (upI (upI (upI (upI (upI (upI c1 b 8 0) b 9 0) (b + 8) 4 0) b 10 75) b 11 0) b 12 0) b 13 0).1 (b + 8) 4 = 0
      rw [up_pl (by omega), up_pl (by omega), up_pl (by omega), up_pl (by omega), up_same]
    · have k1 : k < ((0 : Nat) : Int) := k1
      omega
    · show (upI (upI (upI (upI (upI (upI (upI (upI m1 94 12 0) 94 15 0) 94 18 0) 100 4 75) 100 5 0) 100 6 0) 100 7 0) 94 21 0).1 94 12 = 0
      rw [up_ix (by decide), up_pl (by decide), up_pl (by decide), up_pl (by decide), up_pl (by decide), up_ix (by decide), up_ix (by decide), up_same]
    · show (upI (upI (upI (upI (upI (upI (upI (upI m1 94 12 0) 94 15 0) 94 18 0) 100 4 75) 100 5 0) 100 6 0) 100 7 0) 94 21 0).1 94 15 = 0
      rw [up_ix (by decide), up_pl (by decide), up_pl (by decide), up_pl (by decide), up_pl (by decide), up_ix (by decide), up_same]
    · show (upI (upI (upI (upI (upI (upI (upI (upI m1 94 12 0) 94 15 0) 94 18 0) 100 4 75) 100 5 0) 100 6 0) 100 7 0) 94 21 0).1 94 18 = 0
      rw [up_ix (by decide), up_pl (by decide), up_pl (by decide), up_pl (by decide), up_pl (by decide), up_same]
    · show (upI (upI (upI (upI (upI (upI (upI (upI m1 94 12 0) 94 15 0) 94 18 0) 100 4 75) 100 5 0) 100 6 0) 100 7 0) 94 21 0).1 100 4 = 75
      rw [up_pl (by decide), up_ix (by decide), up_ix (by decide), up_ix (by decide), up_same]
    · show (upI (upI (upI (upI (upI (upI (upI (upI m1 94 12 0) 94 15 0) 94 18 0) 100 4 75) 100 5 0) 100 6 0) 100 7 0) 94 21 0).1 100 5 = 0
      rw [up_pl (by decide), up_ix (by decide), up_ix (by decide), up_same]
    · show (upI (upI (upI (upI (upI (upI (upI (upI m1 94 12 0) 94 15 0) 94 18 0) 100 4 75) 100 5 0) 100 6 0) 100 7 0) 94 21 0).1 100 6 = 0
      rw [up_pl (by decide), up_ix (by decide), up_same]
    · show (upI (upI (upI (upI (upI (upI (upI (upI m1 94 12 0) 94 15 0) 94 18 0) 100 4 75) 100 5 0) 100 6 0) 100 7 0) 94 21 0).1 100 7 = 0
      rw [up_pl (by decide), up_same]
    · have k1 : k < ((0 : Nat) : Int) := k1
      omega
    · have k1 : k < ((0 : Nat) : Int) := k1
      omega
    · have k1 : k < ((0 : Nat) : Int) := k1
      omega
    · rw [f2 _ _ (by omega), s8]
      show 0 = (upI (upI (upI (upI (upI (upI (upI (upI m1 94 12 0) 94 15 0) 94 18 0) 100 4 75) 100 5 0) 100 6 0) 100 7 0) 94 21 0).1 94 21
      rw [up_same]
    · rw [f2 _ _ (by omega), s7]
    · rw [f2 _ _ (by omega), s9, g2 _ _ (by omega) (by omega), t4]
    · rw [f2 _ _ (by omega), s10, g2 _ _ (by omega) (by omega), t5]
  obtain ⟨c3, m3, s, e, k, v, w, d1, d2, d3, d4, d5⟩ := tokA hN B B' (p := 0) (Nat.zero_le _) (by rw [f2 _ _ (by omega)]; exact s3) (by rw [g2 _ _ (by omega) (by omega)]; exact t7)
  have eR : F_X8_read N b n c = loopK (fun q nx45 => F_X8_read_B45 N nx45 b q.1 q.2) N (0, c3) := by
    show (F_X0_clear N b c1).bind _ = _
    have : F_X0_clear N b c1 = some c2 := rfl
    rw [this, Option.bind_some, d1, Option.bind_some]
  have eM : mTail N n m = loopK (fun q nx55 => F_X12_text_B55 N nx55 q.1 q.2) N (0, m3) := by
    show (F_X12_plain N m1).bind _ = _
    have : F_X12_plain N m1 = some m2 := by
      unfold F_X12_plain
      rw [inb_in (by omega), inb_in (by omega), inb_in (by omega), inb_in (by omega)]
    rw [this, Option.bind_some, d2, Option.bind_some]
  rw [eR, eM]
  have F1 : ∀ c', FrC b c3 c' → FC2 b c c' := fun c' h => ⟨fun y z q1 q2 => by rw [h.1 y z (by omega) q2, d4.1 y z (by omega), f2 y z q2]; exact f1 y z q1, by rw [h.2, d4.2]; rfl, by rw [h.1 _ _ (by omega) (by omega), d4.1 _ _ (by omega), f2 _ _ (by omega)]; exact s1⟩
  have F2 : ∀ m', FrM m3 m' → FM2 m m' := fun m' h => ⟨fun y z q1 q2 q3 q4 q5 => by rw [h.1 y z (by omega) q2 q3 q4 q5, d5.1 y z (by omega), g2 y z (by omega) q5]; exact g1 y z (by omega), by rw [h.2, d5.2]; rfl, by rw [h.1 _ _ (by omega) (by omega) (by omega) (by omega) (by omega), d5.1 _ _ (by omega), g2 _ _ (by omega) (by omega)]; exact t1⟩
  rcases n_loop (C := C) hN n N N c3 m3 E0 0 0 s e k v w (by omega) (bigN hN) (bigN hN) (T.k d4.k d5.k) d3 (Nat.zero_le _) with ⟨c4, m4, E4, L, i1, i2, i3, i4, i5⟩ | ⟨c4, m4, i1, i2, i3⟩
  · exact Or.inl ⟨c4, m4, E4, L, i1, i2, i3, F1 c4 i4, F2 m4 i5⟩
  · exact Or.inr ⟨c4, m4, i1, i2, i3.2.2, F1 c4 i3.1, F2 m4 i3.2.1⟩
theorem val_gd (V : Val E) (h : dc E = 0) : GdD E := by
  have : dk0 E = E := by
    obtain ⟨⟨a, b, c, d⟩, f⟩ := E
    have h : d = 0 := h
    subst h; rfl
  have q := dk0_gd V (g := gD E) (c := cD E) V.fok
  rw [this] at q
  exact q
theorem XC.cg3 (h : XC σ b D) (e : ∀ a j, a = 0 ∨ (b ≤ a ∧ a ≤ b + 12) ∨ (29 ≤ a ∧ a ≤ 32) ∨ (52 ≤ a ∧ a ≤ 67) → σ'.1 a j = σ.1 a j) (Z : LowZ σ') : XC σ' b D := by
  have hbb : b + 12 ≤ 28 := by rcases h.1 with q | q <;> omega
  refine ⟨h.1, by rw [e _ _ (by omega)]; exact h.2.1, h.2.2.1.cg (fun a j p q => e a j (by omega)), h.2.2.2.1.cg (fun a j p q => e a j (by omega)), Z, ?_, ?_⟩
  · rcases h.2.2.2.2.2.1 with q | q
    · exact Or.inl (by rw [e _ _ (by omega)]; exact q)
    · exact Or.inr ⟨by rw [e _ _ (by omega)]; exact q.1, ⟨q.2.1.cg (fun a j p q => e a j (by omega)), q.2.2.cg (fun a j p => e a j (by omega))⟩⟩
  · rcases h.2.2.2.2.2.2 with q | q
    · exact Or.inl (by rw [e _ _ (by omega)]; exact q)
    · exact Or.inr ⟨by rw [e _ _ (by omega)]; exact q.1, by rw [e _ _ (by omega)]; exact q.2.1, RunX.cg q.2.2 (fun a j p q => e a j (by omega))⟩
theorem TxM.cg2 (V : Val D) (h : TxM σ D) (e1 : ∀ j, j = 11 ∨ j = 14 ∨ j = 31 ∨ j = 32 ∨ j = 33 → σ'.1 94 j = σ.1 94 j) (e2 : ∀ j, j < 24 → σ'.1 97 j = σ.1 97 j) (e3 : ∀ j, j < 48 → σ'.1 98 j = σ.1 98 j) (e4 : ∀ j, j < 4 → σ'.1 100 j = σ.1 100 j) : TxM σ' D := by
  have vz := V.sz
  obtain ⟨h1, h2, h3⟩ := h
  refine ⟨?_, fun k k0 k1 => ?_, fun k k0 k1 => ?_⟩
  · rw [e1 11 (by simp), e1 14 (by simp), e1 33 (by simp), e4 0 (by decide), e4 1 (by decide), e4 2 (by decide)]; exact h1
  · rw [e2 _ (by omega), e2 (3 * k + 1) (by omega), e2 (3 * k + 2) (by omega)]; exact h2 k k0 k1
  · rw [e1 31 (by simp), e1 32 (by simp), e3 _ (by omega), e3 (4 * k + 1) (by omega), e3 (4 * k + 2) (by omega)]; exact h3 k k0 k1
end TEXT
