/-! THE CLASS'S KIN: its stretches, days together -/
theorem dys_bd {D : Dk} (V : Val D) (g a b fr to : Int) (h2 : 0 ≤ fr) : 0 ≤ dys D g a b fr to ∧ dys D g a b fr to ≤ 1000 := by
  have hn := nsD_is V
  have key : ∀ n : Nat, n ≤ nsD D → 0 ≤ sumTo (dysF D g a b fr to) n ∧ sumTo (dysF D g a b fr to) n ≤ stD D n := by
    intro n
    induction n with
    | zero => intro _; exact ⟨Int.le_refl _, Int.le_refl _⟩
    | succ n ih =>
      intro h
      have i := ih (by omega)
      have inc := stD_inc V (hn.2.2.1 n (by omega))
      have b0 := dysF_bd V g a b fr to h2 n
      have b1 : dysF D g a b fr to (n : Int) ≤ stD D (n + 1) - stD D n := by
        unfold dysF
        rw [Int.toNat_natCast]
        split
        · unfold ovl; (repeat' split) <;> omega
        · omega
      show 0 ≤ sumTo _ n + _ ∧ sumTo _ n + _ ≤ _
      omega
  have := key (nsD D) (Nat.le_refl _)
  rw [hn.2.2.2] at this
  exact this
def KinR (σ : Sto) (v : Nat) (D : Dk) (g : Int) : Prop := σ.1 v 2 = nsD D ∧ (∀ i : Nat, i < nsD D → σ.1 (v + 1) i = stD D i) ∧ ∀ i : Nat, i < nsD D → ∀ m : Nat, m < dm D → σ.1 (v + 2) (8 * i + m) = rlb (pct D (stD D i)) g (dm D) m
theorem KinR.cg {σ σ' : Sto} {v : Nat} {D : Dk} {g : Int} (h : KinR σ v D g) (e : ∀ a j, v ≤ a → a ≤ v + 2 → σ'.1 a j = σ.1 a j) : KinR σ' v D g := by
  refine ⟨by rw [e v 2 (by omega) (by omega)]; exact h.1, fun i hi => ?_, fun i hi m hm => ?_⟩
  · rw [e (v + 1) _ (by omega) (by omega)]; exact h.2.1 i hi
  · rw [e (v + 2) _ (by omega) (by omega)]; exact h.2.2 i hi m hm
section KIN
variable {N : Nat} {D : Dk} {σ : Sto}
/-- the row of starts so far: in order, from 0 on -/
def StR (τ : Sto) (v n : Nat) : Prop := τ.1 v 2 = n ∧ 1 ≤ n ∧ τ.1 (v + 1) 0 = 0 ∧ ∀ i : Nat, i + 1 < n → τ.1 (v + 1) i < τ.1 (v + 1) ((i : Int) + 1)
theorem StR.lt {τ : Sto} {v n : Nat} (h : StR τ v n) : ∀ i j : Nat, i < j → j < n → τ.1 (v + 1) i < τ.1 (v + 1) j := by
  intro i j
  induction j with
  | zero => intro h; omega
  | succ j ih =>
    intro hij hj
    have := h.2.2.2 j hj
    have e : ((j + 1 : Nat) : Int) = (j : Int) + 1 := by omega
    rw [e]
    by_cases q : i = j
    · subst q; exact this
    · have := ih (by omega) (by omega); omega
def adF (N v : Nat) (d : Int) (σ : Sto) : Option Nat → Option Sto
  | none => some σ
  | some a => F_X4_addStart_J46 N v d (a : Int) σ
/-- one more start -/
theorem k_addStart (hN : BigN N) {v n : Nat} {d : Int} (d0 : 0 ≤ d) (hn : n ≤ 24) (S : StR σ v n) : ∃ σ' n', F_X4_addStart N v d σ = some σ' ∧ StR σ' v n' ∧ n' ≤ n + 1 ∧ (∀ x : Int, (∃ i : Nat, i < n' ∧ σ'.1 (v + 1) i = x) ↔ (∃ i : Nat, i < n ∧ σ.1 (v + 1) i = x) ∨ x = d) ∧ ∀ a j, ¬ (a = v ∧ j = 2) → a ≠ v + 1 → σ'.1 a j = σ.1 a j := by
  obtain ⟨s0, s1, s2, s3⟩ := S
  -- where it goes: all from at on are behind it, the one ahead is before it
  have find : ∃ r : Option Nat, ((r = none ∧ ∃ i : Nat, i < n ∧ σ.1 (v + 1) i = d) ∨ ∃ at_ : Nat, r = some at_ ∧ 1 ≤ at_ ∧ at_ ≤ n ∧ σ.1 (v + 1) ((at_ : Int) - 1) < d ∧ ∀ i : Nat, at_ ≤ i → i < n → d < σ.1 (v + 1) i) ∧ ∀ x : Unit, F_X4_addStart N v d σ = adF N v d σ r := by
    unfold F_X4_addStart
    rw [s0]
    refine loop_E (X := Unit) (b := fun _ q nx => F_X4_addStart_B10 N nx v d q.1 q.2 σ) (R' := Option Nat) (fin := fun _ r => adF N v d σ r) (s0 := ((n : Int), (n : Int))) (fun k s => s.1 = (n : Int) - k ∧ s.2 = (n : Int) - k ∧ ∀ i : Nat, n - k ≤ i → i < n → d < σ.1 (v + 1) i) _ n (bigN hN) ⟨by show (n : Int) = (n : Int) - ((0 : Nat) : Int); omega, by show (n : Int) = (n : Int) - ((0 : Nat) : Int); omega, fun i h1 h2 => by omega⟩ (fun k s hk hI => ?_)
    obtain ⟨u, w⟩ := s
    obtain ⟨rfl, rfl, i3⟩ := hI
    have e0 : js ((n : Int) - k) 1 = (n : Int) - k - 1 := js_eq ⟨by omega, by omega⟩
    by_cases hk2 : k = n
    · have z : σ.1 (v + 1) 0 < d ∨ σ.1 (v + 1) 0 = d := by rw [s2]; omega
      exfalso
      have := i3 0 (by omega) (by omega)
      have q : σ.1 (v + 1) ((0 : Nat) : Int) = σ.1 (v + 1) 0 := rfl
      omega
    · have e1 : (n : Int) - k - 1 = ((n - k - 1 : Nat) : Int) := by omega
      by_cases q1 : σ.1 (v + 1) ((n : Int) - k - 1) < d
      · refine Or.inr ⟨some (n - k), Or.inr ⟨n - k, rfl, by omega, by omega, by rw [show ((n - k : Nat) : Int) - 1 = (n : Int) - k - 1 by omega]; exact q1, i3⟩, fun x nx => ?_⟩
        show F_X4_addStart_B10 N nx v d ((n : Int) - k) ((n : Int) - k) σ = F_X4_addStart_J46 N v d ((n - k : Nat) : Int) σ
        unfold F_X4_addStart_B10
        rw [if_neg (by omega), e0, inb_in (by omega), if_pos q1, show ((n - k : Nat) : Int) = (n : Int) - k by omega]
      · by_cases q2 : σ.1 (v + 1) ((n : Int) - k - 1) = d
        · refine Or.inr ⟨none, Or.inl ⟨rfl, n - k - 1, by omega, by rw [← e1]; exact q2⟩, fun x nx => ?_⟩
          show F_X4_addStart_B10 N nx v d ((n : Int) - k) ((n : Int) - k) σ = some σ
          unfold F_X4_addStart_B10
          rw [if_neg (by omega), e0, inb_in (by omega), if_neg q1, if_pos q2]
        · refine Or.inl ⟨by omega, ((n : Int) - k - 1, (n : Int) - k - 1), ⟨by show (n : Int) - k - 1 = _; omega, by show (n : Int) - k - 1 = _; omega, fun i h1 h2 => ?_⟩, fun x nx => ?_⟩
          · by_cases e : i = n - k - 1
            · subst e; rw [← e1]; omega
            · exact i3 i (by omega) h2
          · show F_X4_addStart_B10 N nx v d ((n : Int) - k) ((n : Int) - k) σ = _
            unfold F_X4_addStart_B10
            rw [if_neg (by omega), e0, inb_in (by omega), if_neg q1, if_neg q2]
  obtain ⟨r, hr, hF⟩ := find
  have hF := hF ()
  rcases hr with ⟨rfl, i, hi, e⟩ | ⟨at_, rfl, a1, a2, a3, a4⟩
  · refine ⟨σ, n, hF, ⟨s0, s1, s2, s3⟩, by omega, fun x => ⟨Or.inl, ?_⟩, fun _ _ _ _ => rfl⟩
    rintro (h | rfl)
    · exact h
    · exact ⟨i, hi, e⟩
  · have hF : F_X4_addStart N v d σ = F_X4_addStart_J46 N v d (at_ : Int) σ := hF
    -- the row is moved up
    have mv : ∃ τ : Sto, F_X4_addStart_J46 N v d (at_ : Int) σ = F_X4_addStart_J85 N v d (at_ : Int) τ ∧ (∀ a j, a ≠ v + 1 → τ.1 a j = σ.1 a j) ∧ (∀ j : Int, j ≤ at_ → τ.1 (v + 1) j = σ.1 (v + 1) j) ∧ ∀ j : Int, (at_ : Int) < j → j ≤ n → τ.1 (v + 1) j = σ.1 (v + 1) (j - 1) := by
      unfold F_X4_addStart_J46
      rw [s0]
      refine Exists.elim (loop_A (b := fun q nx => F_X4_addStart_B51 N nx v d (at_ : Int) q.1 q.2) (fin := fun s => F_X4_addStart_J85 N v d (at_ : Int) s.2) (N := N) (s0 := ((n : Int), σ)) (fun k s => s.1 = (n : Int) - k ∧ (∀ a j, a ≠ v + 1 → s.2.1 a j = σ.1 a j) ∧ (∀ j : Int, j ≤ (n : Int) - k → s.2.1 (v + 1) j = σ.1 (v + 1) j) ∧ ∀ j : Int, (n : Int) - k < j → j ≤ n → s.2.1 (v + 1) j = σ.1 (v + 1) (j - 1)) (n - at_) (bigN hN) ⟨by show (n : Int) = (n : Int) - ((0 : Nat) : Int); omega, fun _ _ _ => rfl, fun _ _ => rfl, fun j h1 h2 => by omega⟩ (fun k s hk hI => ?_) (fun s hI nx => ?_)) (fun s hs => ?_)
      rotate_right
      · obtain ⟨⟨j1, j2, j3, j4⟩, hx⟩ := hs
        exact ⟨s.2, hx, j2, fun j h => j3 j (by omega), fun j h1 h2 => j4 j (by omega) h2⟩
      · obtain ⟨u, τ⟩ := s
        obtain ⟨rfl, i2, i3, i4⟩ := hI
        have e0 : js ((n : Int) - k) 1 = (n : Int) - k - 1 := js_eq ⟨by omega, by omega⟩
        refine ⟨((n : Int) - k - 1, upI τ (v + 1) ((n : Int) - k) (τ.1 (v + 1) ((n : Int) - k - 1))), ⟨by show (n : Int) - k - 1 = _; omega, fun a j h => ?_, fun j h => ?_, fun j h1 h2 => ?_⟩, fun nx => ?_⟩
        · show (upI τ _ _ _).1 a j = _
          rw [up_pl h]; exact i2 a j h
        · show (upI τ _ _ _).1 (v + 1) j = _
          rw [up_ix (by omega)]; exact i3 j (by omega)
        · show (upI τ _ _ _).1 (v + 1) j = _
          by_cases e : j = (n : Int) - k
          · subst e; rw [up_same]; exact i3 _ (by omega)
          · rw [up_ix e]; exact i4 j (by omega) h2
        · show F_X4_addStart_B51 N nx v d at_ ((n : Int) - k) τ = _
          unfold F_X4_addStart_B51
          rw [if_neg (by omega), if_neg (by omega), e0, inb_in (by omega), inb_in (by omega)]
      · obtain ⟨u, τ⟩ := s
        obtain ⟨rfl, -⟩ := hI
        show F_X4_addStart_B51 N nx v d at_ _ τ = _
        unfold F_X4_addStart_B51
        rw [if_pos (by omega)]
    obtain ⟨τ, m1, m2, m3, m4⟩ := mv
    have t0 : τ.1 v 2 = n := (m2 v 2 (by omega)).trans s0
    have fin : F_X4_addStart N v d σ = some (upI (upI τ (v + 1) at_ d) v 2 ((n : Int) + 1)) := by
      rw [hF, m1]
      unfold F_X4_addStart_J85
      rw [inb_in (by omega), up_pl (by omega), t0, ja_1 (by omega) (by omega)]
    have rd : ∀ j : Int, (upI (upI τ (v + 1) at_ d) v 2 ((n : Int) + 1)).1 (v + 1) j = if j = at_ then d else τ.1 (v + 1) j := by
      intro j
      rw [up_pl (by omega)]
      by_cases e : j = at_
      · subst e; rw [if_pos rfl, up_same]
      · rw [if_neg e, up_ix e]
    refine ⟨_, n + 1, fin, ⟨by rw [up_same]; omega, by omega, ?_, fun i hi => ?_⟩, by omega, fun x => ?_, fun a j h1 h2 => ?_⟩
    · rw [rd, if_neg (by omega), m3 0 (by omega)]; exact s2
    · rw [rd, rd]
      have ord : ∀ i j : Nat, i < j → j < n → σ.1 (v + 1) i < σ.1 (v + 1) j := StR.lt ⟨s0, s1, s2, s3⟩
      by_cases c1 : i + 1 < at_
      · rw [if_neg (by omega), if_neg (by omega), m3 _ (by omega), m3 _ (by omega)]
        exact s3 i (by omega)
      · by_cases c2 : i + 1 = at_
        · rw [if_neg (by omega), if_pos (by omega), m3 _ (by omega)]
          rw [show ((at_ : Nat) : Int) - 1 = (i : Int) by omega] at a3
          exact a3
        · by_cases c3 : i = at_
          · rw [if_pos (by omega), if_neg (by omega), m4 _ (by omega) (by omega), show (i : Int) + 1 - 1 = (i : Int) by omega]
            exact a4 i (by omega) (by omega)
          · rw [if_neg (by omega), if_neg (by omega), m4 _ (by omega) (by omega), m4 _ (by omega) (by omega), show (i : Int) + 1 - 1 = (i : Int) by omega, show (i : Int) - 1 = ((i - 1 : Nat) : Int) by omega]
            exact ord (i - 1) i (by omega) (by omega)
    · constructor
      · rintro ⟨i, hi, e⟩
        rw [rd] at e
        by_cases c1 : (i : Int) = at_
        · rw [if_pos c1] at e; exact Or.inr e.symm
        · rw [if_neg c1] at e
          by_cases c2 : i < at_
          · rw [m3 _ (by omega)] at e; exact Or.inl ⟨i, by omega, e⟩
          · rw [m4 _ (by omega) (by omega), show (i : Int) - 1 = ((i - 1 : Nat) : Int) by omega] at e
            exact Or.inl ⟨i - 1, by omega, e⟩
      · rintro (⟨i, hi, e⟩ | rfl)
        · by_cases c1 : i < at_
          · exact ⟨i, by omega, by rw [rd, if_neg (by omega), m3 _ (by omega)]; exact e⟩
          · exact ⟨i + 1, by omega, by rw [rd, if_neg (by omega), m4 _ (by omega) (by omega), show ((i + 1 : Nat) : Int) - 1 = (i : Int) by omega]; exact e⟩
        · exact ⟨at_, by omega, by rw [rd, if_pos rfl]⟩
    · rw [upI_ne h1, up_pl h2]; exact m2 a j h2
end KIN
