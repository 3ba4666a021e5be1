/-! the class's next token -/
section NXT
variable {N : Nat} {σ : Sto} {C : Nat → Int} {n : Nat}
def w26 : Nat → Nat := fun k => 2 ^ (30 - 5 * k)
theorem lt_bd {s e : Nat} (h : IsE cLe C n s e) (i : Nat) : 0 ≤ Lt C s (e - s) i ∧ Lt C s (e - s) i ≤ 31 := by
  unfold Lt
  split
  · have := of_decide_eq_true (h.2.2.1 (s + i) (by omega) (by omega)); omega
  · omega
/-- letters so far, as the class packs them -/
theorem pk_step {x l : Int} {k : Nat} (hk : k < 6) (x0 : 0 ≤ x) (x1 : x < p32 k) (l0 : 0 ≤ l) (l1 : l ≤ 31) : jor (x * ((2 ^ (30 - 5 * k) : Nat) : Int)) (jshl l (25 - 5 * (k : Int))) = (32 * x + l) * ((2 ^ (30 - 5 * (k + 1)) : Nat) : Int) := by
  obtain ⟨a, rfl⟩ : ∃ a : Nat, x = a := ⟨x.toNat, by omega⟩
  obtain ⟨c, rfl⟩ : ∃ c : Nat, l = c := ⟨l.toNat, by omega⟩
  have key : ∀ s : Nat, s ≤ 25 → a * 2 ^ (s + 5) + 2 ^ (s + 5) ≤ 2 ^ 31 → jor ((a : Int) * ((2 ^ (s + 5) : Nat) : Int)) (jshl (c : Int) (s : Int)) = (32 * (a : Int) + c) * ((2 ^ s : Nat) : Int) := fun s hs hb => by
    have := jor_mul (x := a) (l := c) (s := s) (by omega) hs hb
    rw [Int.natCast_mul] at this
    rw [this, Int.natCast_mul]
    rfl
  rcases (by omega : k = 0 ∨ k = 1 ∨ k = 2 ∨ k = 3 ∨ k = 4 ∨ k = 5) with rfl | rfl | rfl | rfl | rfl | rfl
  · have x1 : (a : Int) < 1 := x1
    exact key 25 (by decide) (by omega)
  · have x1 : (a : Int) < 32 * 1 := x1
    exact key 20 (by decide) (by omega)
  · have x1 : (a : Int) < 32 * (32 * 1) := x1
    exact key 15 (by decide) (by omega)
  · have x1 : (a : Int) < 32 * (32 * (32 * 1)) := x1
    exact key 10 (by decide) (by omega)
  · have x1 : (a : Int) < 32 * (32 * (32 * (32 * 1))) := x1
    exact key 5 (by decide) (by omega)
  · have x1 : (a : Int) < 32 * (32 * (32 * (32 * (32 * 1)))) := x1
    exact key 0 (by decide) (by omega)
theorem pk_fill {L : Nat → Int} {m : Nat} (hm : m ≤ 6) (hz : ∀ i, m ≤ i → L i = 0) : pkV L m * ((2 ^ (30 - 5 * m) : Nat) : Int) = pkV L 6 := by
  have key : ∀ d k, d = 6 - k → m ≤ k → k ≤ 6 → pkV L k * ((2 ^ (30 - 5 * k) : Nat) : Int) = pkV L 6 := by
    intro d
    induction d with
    | zero => intro k hd h1 h2; have e : k = 6 := by omega
              subst e; exact Int.mul_one _
    | succ d ih =>
      intro k hd h1 h2
      have := ih (k + 1) (by omega) (by omega) (by omega)
      rw [← this]
      show pkV L k * ((2 ^ (30 - 5 * k) : Nat) : Int) = (32 * pkV L k + L k) * ((2 ^ (30 - 5 * (k + 1)) : Nat) : Int)
      rw [hz k h1, Int.add_zero, show 30 - 5 * k = (30 - 5 * (k + 1)) + 5 by omega, Nat.pow_add, Int.natCast_mul, Int.mul_comm 32 (pkV L k), Int.mul_assoc, Int.mul_comm ((2 ^ (30 - 5 * (k + 1)) : Nat) : Int)]
      rfl
  exact key _ m rfl (Nat.le_refl _) hm
theorem lwd_inj : ∀ i, i < 7 → ∀ j, j < 7 → lwd ((i : Nat) : Int) = lwd ((j : Nat) : Int) → i = j := by decide
/-- the word's kind -/
theorem k_wordKind (hN : BigN N) (code : Int) : ∃ σ', F_X8_readWord_J80 N code 2 σ = some σ' ∧ (∀ y z, ¬ (y = 1 ∧ (z = 4 ∨ z = 6)) → σ'.1 y z = σ.1 y z) ∧ σ'.2 = σ.2 ∧ ((∃ i : Nat, i < 7 ∧ code = lwd i ∧ σ'.1 1 4 = 1 ∧ σ'.1 1 6 = i) ∨ ((∀ i : Nat, i < 7 → code ≠ lwd i) ∧ σ'.1 1 4 = 2 ∧ σ'.1 1 6 = code)) := by
  unfold F_X8_readWord_J80
  obtain ⟨r, r1, r2⟩ := loop_E (X := Unit) (R' := Sto) (b := fun _ q nx90 => F_X8_readWord_B90 N nx90 code q.1 q.2) (fin := fun _ r => some r) (N := N) (s0 := ((0 : Int), upI (upI σ 1 4 2) 1 6 code)) (fun k s => s.1 = k ∧ (∀ y z, ¬ (y = 1 ∧ (z = 4 ∨ z = 6)) → s.2.1 y z = σ.1 y z) ∧ s.2.2 = σ.2 ∧ ((∃ i : Nat, i < 7 ∧ i + 1 = k ∧ code = lwd i ∧ s.2.1 1 4 = 1 ∧ s.2.1 1 6 = i) ∨ ((∀ i : Nat, i < k → code ≠ lwd i) ∧ s.2.1 1 4 = 2 ∧ s.2.1 1 6 = code))) (fun σ' => (∀ y z, ¬ (y = 1 ∧ (z = 4 ∨ z = 6)) → σ'.1 y z = σ.1 y z) ∧ σ'.2 = σ.2 ∧ ((∃ i : Nat, i < 7 ∧ code = lwd i ∧ σ'.1 1 4 = 1 ∧ σ'.1 1 6 = i) ∨ ((∀ i : Nat, i < 7 → code ≠ lwd i) ∧ σ'.1 1 4 = 2 ∧ σ'.1 1 6 = code))) 7 (bigN hN) ⟨rfl, fun y z q => by rw [upI_ne (by omega), upI_ne (by omega)], rfl, Or.inr ⟨fun i hi => by omega, by rw [up_ix (by decide), up_same], up_same⟩⟩ (fun k s hk hI => by
    obtain ⟨v, τ⟩ := s
    obtain ⟨i1, i2, i3, i4⟩ := hI
    have i1 : v = k := i1
    subst i1
    rcases i4 with ⟨i, j1, j2, j3, j4, j5⟩ | ⟨j1, j2, j3⟩
    · have j4 : τ.1 1 4 = 1 := j4
      refine Or.inr ⟨τ, ⟨i2, i3, Or.inl ⟨i, j1, j3, j4, j5⟩⟩, fun _ nx => ?_⟩
      show F_X8_readWord_B90 N nx code k τ = _
      unfold F_X8_readWord_B90
      rw [j4, if_neg (by decide)]
    · have j2 : τ.1 1 4 = 2 := j2
      by_cases e : k = 7
      · subst e
        refine Or.inr ⟨τ, ⟨i2, i3, Or.inr ⟨j1, j2, j3⟩⟩, fun _ nx => ?_⟩
        show F_X8_readWord_B90 N nx code ((7 : Nat) : Int) τ = _
        unfold F_X8_readWord_B90
        rw [j2, if_pos rfl, if_pos (by omega)]
      · by_cases q : lwd (k : Int) = code
        · refine Or.inl ⟨by omega, ((k : Int) + 1, upI (upI τ 1 4 1) 1 6 k), ⟨by show (k : Int) + 1 = ((k + 1 : Nat) : Int); omega, fun y z p => ?_, i3, Or.inl ⟨k, by omega, rfl, q.symm, ?_, up_same⟩⟩, fun _ nx => ?_⟩
          · show (upI (upI τ 1 4 1) 1 6 k).1 y z = _
            rw [upI_ne (by omega), upI_ne (by omega)]; exact i2 y z p
          · show (upI (upI τ 1 4 1) 1 6 k).1 1 4 = 1
            rw [up_ix (by decide), up_same]
          · show F_X8_readWord_B90 N nx code k τ = _
            unfold F_X8_readWord_B90 F_X8_readWord_J125
            rw [j2, if_pos rfl, if_neg (by omega), inb_in (by omega), if_pos q, ja_1 (by omega) (by omega)]
        · refine Or.inl ⟨by omega, ((k : Int) + 1, τ), ⟨by show (k : Int) + 1 = ((k + 1 : Nat) : Int); omega, i2, i3, Or.inr ⟨fun i hi => ?_, j2, j3⟩⟩, fun _ nx => ?_⟩
          · by_cases z : i = k
            · subst z; exact fun w => q w.symm
            · exact j1 i (by omega)
          · show F_X8_readWord_B90 N nx code k τ = _
            unfold F_X8_readWord_B90 F_X8_readWord_J125
            rw [j2, if_pos rfl, if_neg (by omega), inb_in (by omega), if_neg q, ja_1 (by omega) (by omega)])
  exact ⟨r, r2 (), r1⟩
theorem k_word (hN : BigN N) (B : BX σ n C) {s e : Nat} (h : IsE cLe C n s e) (hs : σ.1 1 3 = s) : ∃ σ', F_X8_readWord N σ = some σ' ∧ σ'.1 1 3 = e ∧ (∀ y z, ¬ (y = 1 ∧ (z = 3 ∨ z = 4 ∨ z = 6)) → σ'.1 y z = σ.1 y z) ∧ σ'.2 = σ.2 ∧ ((6 < e - s ∧ σ'.1 1 4 = 6) ∨ (e - s ≤ 6 ∧ ((∃ i : Nat, i < 7 ∧ pkV (Lt C s (e - s)) 6 = lwd i ∧ σ'.1 1 4 = 1 ∧ σ'.1 1 6 = i) ∨ ((∀ i : Nat, i < 7 → pkV (Lt C s (e - s)) 6 ≠ lwd i) ∧ σ'.1 1 4 = 2 ∧ σ'.1 1 6 = pkV (Lt C s (e - s)) 6)))) := by
  have b1 := B.1
  have he := h.2.1
  have hse := h.1
  have le : ∀ i, i < e - s → 97 ≤ C (s + i) ∧ C (s + i) ≤ 122 := fun i hi => of_decide_eq_true (h.2.2.1 (s + i) (by omega) (by omega))
  -- the code after k letters
  let cd : Nat → Int := fun k => pkV (Lt C s (e - s)) (if k ≤ 6 then k else 6) * ((2 ^ (30 - 5 * (if k ≤ 6 then k else 6)) : Nat) : Int)
  have c6 : ∀ k, 6 ≤ k → cd k = cd 6 := fun k hk => by
    show pkV (Lt C s (e - s)) (if k ≤ 6 then k else 6) * ((2 ^ (30 - 5 * (if k ≤ 6 then k else 6)) : Nat) : Int) = _
    by_cases z : k = 6
    · subst z; rfl
    · rw [if_neg (by omega)]; rfl
  have lp : F_X8_readWord N σ = F_X8_readWord_J67 N ((e - s : Nat) : Int) (cd (e - s)) (upI σ 1 3 (e : Int)) := by
    unfold F_X8_readWord
    rw [← up3e hs]
    refine loopK_for (b := fun q nx6 => F_X8_readWord_B6 N nx6 q.1 q.2.1 q.2.2.1 q.2.2.2) (s := fun k => ((k : Int), cd k, (k : Int), upI σ 1 3 ((s + k : Nat) : Int))) (e - s) (bigN hN) (fun k hk nx => ?_) (fun nx => ?_)
    · have Bk : BX (upI σ 1 3 ((s + k : Nat) : Int)) n C := B.cg (up_ix (by decide)) (fun z => up_pl (by decide))
      have st := e_step h hk (by decide)
      have d := le k hk
      show F_X8_readWord_B6 N nx k (cd k) k (upI σ 1 3 ((s + k : Nat) : Int)) = nx (((k + 1 : Nat) : Int), cd (k + 1), ((k + 1 : Nat) : Int), upI σ 1 3 ((s + (k + 1) : Nat) : Int))
      unfold F_X8_readWord_B6 F_X8_readWord_J48
      rw [if_neg (by omega), k_sign Bk up_same, Option.bind_some, k_isLetter, Option.bind_some, if_pos st, if_neg (by decide), Option.bind_some, up_same, up33 (c := 0), ja_1 (k := (k : Int)) (by omega) (by omega), ja_1 (k := ((s + k : Nat) : Int)) (by omega) (by omega), if_pos (show s + k < n by omega), show ((s + k : Nat) : Int) + 1 = ((s + (k + 1) : Nat) : Int) by omega, show ((k + 1 : Nat) : Int) = (k : Int) + 1 by omega]
      by_cases q : 6 ≤ k
      · rw [if_pos (by omega), c6 k q, c6 (k + 1) (by omega)]
      · rw [if_neg (by omega), js_eq (a := C (s + k)) ⟨by omega, by omega⟩, ja_eq ⟨by omega, by omega⟩, jm_eq ⟨by omega, by omega⟩, js_eq ⟨by omega, by omega⟩]
        have pb := pkV_bd (L := Lt C s (e - s)) (k := k) (fun i _ => lt_bd h i)
        have ps := pk_step (x := pkV (Lt C s (e - s)) k) (l := Lt C s (e - s) k) (k := k) (by omega) pb.1 pb.2 (lt_bd h k).1 (lt_bd h k).2
        have el : Lt C s (e - s) k = C (s + k) - 97 + 1 := by unfold Lt; rw [if_pos hk]; omega
        have e1 : cd k = pkV (Lt C s (e - s)) k * ((2 ^ (30 - 5 * k) : Nat) : Int) := by
          show pkV (Lt C s (e - s)) (if k ≤ 6 then k else 6) * ((2 ^ (30 - 5 * (if k ≤ 6 then k else 6)) : Nat) : Int) = _
          rw [if_pos (by omega)]
        have e2 : cd (k + 1) = (32 * pkV (Lt C s (e - s)) k + Lt C s (e - s) k) * ((2 ^ (30 - 5 * (k + 1)) : Nat) : Int) := by
          show pkV (Lt C s (e - s)) (if k + 1 ≤ 6 then k + 1 else 6) * ((2 ^ (30 - 5 * (if k + 1 ≤ 6 then k + 1 else 6)) : Nat) : Int) = _
          rw [if_pos (by omega)]; rfl
        rw [e1, e2, ← ps, el]
    · have Bk : BX (upI σ 1 3 ((s + (e - s) : Nat) : Int)) n C := B.cg (up_ix (by decide)) (fun z => up_pl (by decide))
      have en := e_end h (by decide)
      show F_X8_readWord_B6 N nx ((e - s : Nat) : Int) (cd (e - s)) ((e - s : Nat) : Int) (upI σ 1 3 ((s + (e - s) : Nat) : Int)) = _
      unfold F_X8_readWord_B6
      rw [k_sign Bk up_same, Option.bind_some, k_isLetter, Option.bind_some, show s + (e - s) = e by omega, en]
      by_cases q : 700 ≤ ((e - s : Nat) : Int)
      · rw [if_pos q, up3e hs]
      · rw [if_neg q, if_pos (show (if (false : Bool) = true then (1 : Int) else 0) = 0 from rfl), up3e hs]
  rw [lp]
  unfold F_X8_readWord_J67
  by_cases q : e - s ≤ 6
  · have ec : cd (e - s) = pkV (Lt C s (e - s)) 6 := by
      show pkV (Lt C s (e - s)) (if e - s ≤ 6 then e - s else 6) * ((2 ^ (30 - 5 * (if e - s ≤ 6 then e - s else 6)) : Nat) : Int) = _
      rw [if_pos q]
      exact pk_fill q (fun i hi => by unfold Lt; rw [if_neg (by omega)])
    rw [if_pos (by omega), ec]
    obtain ⟨σ', a1, a2, a3, a4⟩ := k_wordKind (N := N) (σ := upI σ 1 3 (e : Int)) hN (pkV (Lt C s (e - s)) 6)
    exact ⟨σ', a1, by rw [a2 _ _ (by omega), up_same], fun y z p => by rw [a2 y z (by omega), upI_ne (by omega)], a3, Or.inr ⟨q, a4⟩⟩
  · rw [if_neg (by omega)]
    unfold F_X8_readWord_J80
    have hN1 : ∃ m, N = m + 1 := ⟨N - 1, by have := bigN hN (k := 1); omega⟩
    obtain ⟨m, hm⟩ := hN1
    have e4 : (upI (upI (upI σ 1 3 (e : Int)) 1 4 6) 1 6 (cd (e - s))).1 1 4 = 6 := by rw [up_ix (by decide), up_same]
    refine ⟨upI (upI (upI σ 1 3 (e : Int)) 1 4 6) 1 6 (cd (e - s)), ?_, by rw [up_ix (by decide), up_ix (by decide), up_same], fun y z p => by rw [upI_ne (by omega), upI_ne (by omega), upI_ne (by omega)], rfl, Or.inl ⟨by omega, e4⟩⟩
    rw [hm]
    show F_X8_readWord_B90 (m + 1) _ (cd (e - s)) 0 _ = _
    unfold F_X8_readWord_B90
    rw [e4, if_neg (by decide)]
/-- the next token, as the class reads it -/
theorem k_next (hN : BigN N) (B : BX σ n C) {p s e : Nat} {k v w : Int} (T : TokP C n p s e k v w) (hp : σ.1 1 3 = p) : ∃ σ', F_X8_next N σ = some σ' ∧ (σ'.1 1 3 = e ∧ σ'.1 1 5 = s ∧ σ'.1 1 4 = k) ∧ (1 ≤ k ∧ k ≤ 4 → σ'.1 1 6 = v) ∧ (∀ y z, ¬ (y = 1 ∧ 3 ≤ z ∧ z ≤ 6) → σ'.1 y z = σ.1 y z) ∧ σ'.2 = σ.2 := by
  obtain ⟨hE, T⟩ := T
  have b1 := B.1
  have hs1 := hE.1
  have hs2 := hE.2.1
  have lp : F_X8_next N σ = F_X8_next_J35 N (upI σ 1 3 (s : Int)) := by
    unfold F_X8_next
    rw [← up3e hp]
    refine loopK_for (b := fun q nx2 => F_X8_next_B2 N nx2 q.1 q.2) (s := fun k => ((k : Int), upI σ 1 3 ((p + k : Nat) : Int))) (s - p) (bigN hN) (fun k hk nx => ?_) (fun nx => ?_)
    · have Bk : BX (upI σ 1 3 ((p + k : Nat) : Int)) n C := B.cg (up_ix (by decide)) (fun z => up_pl (by decide))
      have st := e_step hE hk (by decide)
      show F_X8_next_B2 N nx k (upI σ 1 3 ((p + k : Nat) : Int)) = nx (((k + 1 : Nat) : Int), upI σ 1 3 ((p + (k + 1) : Nat) : Int))
      unfold F_X8_next_B2
      rw [if_neg (by omega), k_sign Bk up_same, Option.bind_some, k_isBlank, Option.bind_some, if_pos st, if_neg (by decide), up_same, up33 (c := 0), ja_1 (by omega) (by omega), ja_1 (by omega) (by omega), show ((p + k : Nat) : Int) + 1 = ((p + (k + 1) : Nat) : Int) by omega]; rfl
    · have Bk : BX (upI σ 1 3 ((p + (s - p) : Nat) : Int)) n C := B.cg (up_ix (by decide)) (fun z => up_pl (by decide))
      have en := e_end hE (by decide)
      show F_X8_next_B2 N nx ((s - p : Nat) : Int) (upI σ 1 3 ((p + (s - p) : Nat) : Int)) = _
      unfold F_X8_next_B2
      rw [k_sign Bk up_same, Option.bind_some, k_isBlank, Option.bind_some, show p + (s - p) = s by omega, en]
      by_cases q : 700 ≤ ((s - p : Nat) : Int)
      · rw [if_pos q, up3e hp]
      · rw [if_neg q, if_pos (show (if (false : Bool) = true then (1 : Int) else 0) = 0 from rfl), up3e hp]
  rw [lp]
  let τ : Sto := upI (upI σ 1 3 (s : Int)) 1 5 (s : Int)
  have t3 : τ.1 1 3 = s := by show (upI (upI σ 1 3 (s : Int)) 1 5 (s : Int)).1 1 3 = _; rw [up_ix (by decide), up_same]
  have t2 : τ.1 1 2 = n := by show (upI (upI σ 1 3 (s : Int)) 1 5 (s : Int)).1 1 2 = _; rw [up_ix (by decide), up_ix (by decide)]; exact B.2.1
  have t5 : τ.1 1 5 = s := up_same
  have tf : ∀ y z, ¬ (y = 1 ∧ 3 ≤ z ∧ z ≤ 6) → τ.1 y z = σ.1 y z := fun y z q => by show (upI (upI σ 1 3 (s : Int)) 1 5 (s : Int)).1 y z = _; rw [upI_ne (by omega), upI_ne (by omega)]
  have Bt : BX τ n C := B.cg (tf _ _ (by omega)) (fun z => tf _ _ (by omega))
  unfold F_X8_next_J35
  rw [up_same]
  show ∃ σ', (F_X8_sign N τ).bind (fun q1 => if (τ.1 1 3) < (τ.1 1 2) then ((F_X8_isLetter N q1 τ).bind (fun q3 => if q3 = 0 then ((F_X8_isDigit N q1 τ).bind (fun q6 => if q6 = 0 then (if q1 = 45 then (F_X8_next_J94 N τ) else (if q1 = 59 then (F_X8_next_J114 N 5 τ) else (F_X8_next_J114 N 6 τ))) else (F_X8_next_J94 N τ))) else ((F_X8_readWord N τ).bind (fun q10 => some q10)))) else (some (upI τ 1 4 0))) = some σ' ∧ _
  rw [k_sign Bt t3, Option.bind_some, t3, t2]
  rcases T with ⟨T1, T2, T3⟩ | ⟨T1, T2, T3, T4⟩ | ⟨T1, T2, T3, T4, T5, T6⟩ | ⟨T1, T2, T3, T4⟩ | ⟨T1, T2, T3, T4, T5, T6, T7, T8⟩ | ⟨T1, T2, T3, T4, T5, T6, T7⟩
  · subst T1; subst T2; subst T3
    rw [if_neg (by omega)]
    exact ⟨_, rfl, ⟨by rw [up_ix (by decide)]; exact t3, by rw [up_ix (by decide)]; exact t5, up_same⟩, fun z => by omega, fun y z q => by rw [upI_ne (by omega)]; exact tf y z q, rfl⟩
  · rw [if_pos (by omega), if_pos T1, k_isLetter, Option.bind_some, if_pos T2, if_neg (by decide)]
    obtain ⟨σ', a1, a2, a3, a4, a5⟩ := k_word hN Bt T3 t3
    rw [a1, Option.bind_some]
    refine ⟨σ', rfl, ⟨a2, by rw [a3 _ _ (by omega)]; exact t5, ?_⟩, fun hk => ?_, fun y z q => by rw [a3 y z (by omega)]; exact tf y z q, a4⟩
    · rcases T4 with ⟨q1, q2⟩ | ⟨q1, i, q2, q3, q4, q5, q6⟩ | ⟨q1, q2, q3, q4, q5⟩
      · rcases a5 with ⟨r1, r2⟩ | ⟨r1, r2⟩
        · rw [r2, q2]
        · omega
      · rcases a5 with ⟨r1, r2⟩ | ⟨r1, ⟨j, r2, r3, r4, r5⟩ | ⟨r2, r3, r4⟩⟩
        · omega
        · rw [r4, q4]
        · exact absurd q3 (r2 i q2)
      · rcases a5 with ⟨r1, r2⟩ | ⟨r1, ⟨j, r2, r3, r4, r5⟩ | ⟨r2, r3, r4⟩⟩
        · omega
        · exact absurd r3 (q2 j r2)
        · rw [r3, q3]
    · rcases T4 with ⟨q1, q2⟩ | ⟨q1, i, q2, q3, q4, q5, q6⟩ | ⟨q1, q2, q3, q4, q5⟩
      · omega
      · rcases a5 with ⟨r1, r2⟩ | ⟨r1, ⟨j, r2, r3, r4, r5⟩ | ⟨r2, r3, r4⟩⟩
        · omega
        · rw [r5, q5, lwd_inj i q2 j r2 (q3.symm.trans r3)]
        · exact absurd q3 (r2 i q2)
      · rcases a5 with ⟨r1, r2⟩ | ⟨r1, ⟨j, r2, r3, r4, r5⟩ | ⟨r2, r3, r4⟩⟩
        · omega
        · exact absurd r3 (q2 j r2)
        · rw [r4, q4]
  · have nl : cLe (C s) = false := by
      have := of_decide_eq_true T2
      exact decide_eq_false (by omega)
    rw [if_pos (by omega), if_pos T1, k_isLetter, Option.bind_some, nl, if_pos (show (if (false : Bool) = true then (1 : Int) else 0) = 0 from rfl), k_isDigit, Option.bind_some, if_pos T2, if_neg (by decide)]
    unfold F_X8_next_J94
    rw [k_numP hN Bt T1 T2 T3 t3, Option.bind_some]
    refine ⟨_, rfl, ⟨?_, ?_, ?_⟩, fun _ => ?_, fun y z q => ?_, rfl⟩
    · rw [up_ix (by decide), up_same]
    · rw [up_ix (by decide), up_ix (by decide), up_ix (by decide)]; exact t5
    · rw [up_ix (by decide), up_ix (by decide), up_same, T4]
    · rw [up_same, T5]
    · rw [upI_ne (by omega), upI_ne (by omega), upI_ne (by omega)]; exact tf y z q
  · have nl : cLe (C s) = false := by rw [T2]; decide
    have nd : cDi (C s) = false := by rw [T2]; decide
    have e3 : (upI τ 1 4 5).1 1 3 = s := (up_ix (by decide)).trans t3
    rw [if_pos (by omega), if_pos T1, k_isLetter, Option.bind_some, nl, if_pos (show (if (false : Bool) = true then (1 : Int) else 0) = 0 from rfl), k_isDigit, Option.bind_some, nd, if_pos (show (if (false : Bool) = true then (1 : Int) else 0) = 0 from rfl), if_neg (show ¬ C s = 45 by omega), if_pos T2]
    unfold F_X8_next_J114
    rw [e3, ja_1 (by omega) (by omega)]
    refine ⟨_, rfl, ⟨?_, ?_, ?_⟩, fun z => by omega, fun y z q => ?_, rfl⟩
    · rw [up_same, T3]; omega
    · rw [up_ix (by decide), up_ix (by decide)]; exact t5
    · rw [up_ix (by decide), up_same, T4]
    · rw [upI_ne (by omega), upI_ne (by omega)]; exact tf y z q
  · have nl : cLe (C s) = false := by rw [T2]; decide
    have nd : cDi (C s) = false := by rw [T2]; decide
    have se : s + 1 < e := by
      have h1 := T5.1
      by_cases z : s + 1 = e
      · rcases T5.2.2.2 with w | w
        · omega
        · rw [← z, T4] at w; exact absurd w (by decide)
      · omega
    rw [if_pos (by omega), if_pos T1, k_isLetter, Option.bind_some, nl, if_pos (show (if (false : Bool) = true then (1 : Int) else 0) = 0 from rfl), k_isDigit, Option.bind_some, nd, if_pos (show (if (false : Bool) = true then (1 : Int) else 0) = 0 from rfl), if_pos T2]
    unfold F_X8_next_J94
    rw [k_numM hN Bt T1 T2 T5 t3, Option.bind_some, if_pos se]
    have dg : ∀ i, i < e - (s + 1) → 48 ≤ C (s + 1 + i) ∧ C (s + 1 + i) ≤ 57 := fun i hi => of_decide_eq_true (T5.2.2.1 (s + 1 + i) (by omega) (by omega))
    have nb := nm_rel (C := C) (s := s + 1) (k := e - (s + 1)) dg
    refine ⟨_, rfl, ⟨?_, ?_, ?_⟩, fun _ => ?_, fun y z q => ?_, rfl⟩
    · rw [up_ix (by decide), up_same]
    · rw [up_ix (by decide), up_ix (by decide), up_ix (by decide), up_ix (by decide)]; exact t5
    · rw [up_ix (by decide), up_ix (by decide), up_same, T6]
    · rw [up_same, T7, jneg_eq ⟨by omega, by omega⟩]
    · rw [upI_ne (by omega), upI_ne (by omega), upI_ne (by omega), upI_ne (by omega)]; exact tf y z q
  · have e3 : (upI τ 1 4 6).1 1 3 = s := (up_ix (by decide)).trans t3
    rw [if_pos (by omega), if_pos T1, k_isLetter, Option.bind_some, T2, if_pos (show (if (false : Bool) = true then (1 : Int) else 0) = 0 from rfl), k_isDigit, Option.bind_some, T3, if_pos (show (if (false : Bool) = true then (1 : Int) else 0) = 0 from rfl)]
    by_cases q : C s = 45
    · have hE1 : IsE cDi C n (s + 1) (s + 1) := by
        refine ⟨Nat.le_refl _, by omega, fun y a b => by omega, ?_⟩
        by_cases z : s + 1 < n
        · exact Or.inr (b_ne (fun w => T5 ⟨q, z, w⟩))
        · exact Or.inl (by omega)
      rw [if_pos q]
      unfold F_X8_next_J94
      rw [k_numM hN Bt T1 q hE1 t3, Option.bind_some, if_neg (Nat.lt_irrefl _)]
      refine ⟨_, rfl, ⟨?_, ?_, ?_⟩, fun z => by omega, fun y z p => ?_, rfl⟩
      · rw [up_ix (by decide), up_same, T6]
      · rw [up_ix (by decide), up_ix (by decide), up_ix (by decide), up_ix (by decide), up_ix (by decide)]; exact t5
      · rw [up_ix (by decide), up_ix (by decide), up_same, T7]
      · rw [upI_ne (by omega), upI_ne (by omega), upI_ne (by omega), upI_ne (by omega), upI_ne (by omega)]; exact tf y z p
    · rw [if_neg q, if_neg T4]
      unfold F_X8_next_J114
      rw [e3, ja_1 (by omega) (by omega)]
      refine ⟨_, rfl, ⟨?_, ?_, ?_⟩, fun z => by omega, fun y z p => ?_, rfl⟩
      · rw [up_same, T6]; omega
      · rw [up_ix (by decide), up_ix (by decide)]; exact t5
      · rw [up_ix (by decide), up_same, T7]
      · rw [upI_ne (by omega), upI_ne (by omega)]; exact tf y z p
end NXT
