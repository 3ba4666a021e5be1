/-! the store behind the two constructors -/
section START
variable {N : Nat}
theorem st_inv (hN : BigN N) : ∃ σ1 σ2, F_X12_plain N st0 = some σ1 ∧ F_X12_keepText N σ1 = some σ2 ∧ INV σ2 := by
  let σ1 : Sto := upI (upI (upI (upI (upI (upI (upI (upI st0 94 12 0) 94 15 0) 94 18 0) 100 4 75) 100 5 0) 100 6 0) 100 7 0) 94 21 0
  have p1 : F_X12_plain N st0 = some σ1 := by
    unfold F_X12_plain
    rw [inb_in (by omega), inb_in (by omega), inb_in (by omega), inb_in (by omega)]
  have g : ∀ y z, ¬ (y = 94 ∧ (z = 12 ∨ z = 15 ∨ z = 18 ∨ z = 21)) → ¬ (y = 100 ∧ 4 ≤ z) → σ1.1 y z = st0.1 y z := fun y z q q' => by
    show (upI (upI (upI (upI (upI (upI (upI (upI st0 94 12 0) 94 15 0) 94 18 0) 100 4 75) 100 5 0) 100 6 0) 100 7 0) 94 21 0).1 y z = _
    rw [upI_ne (by omega), upI_ne (by omega), upI_ne (by omega), upI_ne (by omega), upI_ne (by omega), upI_ne (by omega), upI_ne (by omega), upI_ne (by omega)]
  have z0 : ∀ (y : Nat) (z : Int), ¬ (y = 3 ∧ z = 10) → ¬ (y = 16 ∧ z = 10) → ¬ (y = 1 ∧ z = 10) → ¬ (y = 0 ∧ z = 1) → ¬ (y = 0 ∧ z = 2) → ¬ (y = 94 ∧ (z = 5 ∨ z = 31 ∨ z = 38)) → y ≠ 96 → y ≠ 100 → st0.1 y z = 0 := fun y z a1 a2 a3 a4 a5 a6 a7 a8 => by
    show (if y = 3 ∧ z = 10 then (75 : Int) else if y = 16 ∧ z = 10 then 75 else if y = 1 ∧ z = 10 then -1 else if y = 0 ∧ z = 1 then 3 else if y = 0 ∧ z = 2 then 16 else if y = 94 ∧ (z = 5 ∨ z = 31 ∨ z = 38) then -1 else if y = 96 then wordsF z else if y = 100 then toldF z else 0) = 0
    rw [if_neg a1, if_neg a2, if_neg a3, if_neg a4, if_neg a5, if_neg a6, if_neg a7, if_neg a8]
  have R : RdM σ1 E0 := by
    refine ⟨⟨?_, ?_, ?_, ?_, ?_, ?_, ?_⟩, fun k k0 k1 => ?_, fun k k0 k1 => ?_, fun k k0 k1 => ?_⟩
    · show (upI (upI (upI (upI (upI (upI (upI (upI st0 94 12 0) 94 15 0) 94 18 0) 100 4 75) 100 5 0) 100 6 0) 100 7 0) 94 21 0).1 94 12 = 0
      rw [up_ix (by decide), up_pl (by decide), up_pl (by decide), up_pl (by decide), up_pl (by decide), up_ix (by decide), up_ix (by decide), up_same]
    · show (upI (upI (upI (upI (upI (upI (upI (upI st0 94 12 0) 94 15 0) 94 18 0) 100 4 75) 100 5 0) 100 6 0) 100 7 0) 94 21 0).1 94 15 = 0
      rw [up_ix (by decide), up_pl (by decide), up_pl (by decide), up_pl (by decide), up_pl (by decide), up_ix (by decide), up_same]
    · show (upI (upI (upI (upI (upI (upI (upI (upI st0 94 12 0) 94 15 0) 94 18 0) 100 4 75) 100 5 0) 100 6 0) 100 7 0) 94 21 0).1 94 18 = 0
      rw [up_ix (by decide), up_pl (by decide), up_pl (by decide), up_pl (by decide), up_pl (by decide), up_same]
    · show (upI (upI (upI (upI (upI (upI (upI (upI st0 94 12 0) 94 15 0) 94 18 0) 100 4 75) 100 5 0) 100 6 0) 100 7 0) 94 21 0).1 100 4 = 75
      rw [up_pl (by decide), up_ix (by decide), up_ix (by decide), up_ix (by decide), up_same]
    · show (upI (upI (upI (upI (upI (upI (upI (upI st0 94 12 0) 94 15 0) 94 18 0) 100 4 75) 100 5 0) 100 6 0) 100 7 0) 94 21 0).1 100 5 = 0
      rw [up_pl (by decide), up_ix (by decide), up_ix (by decide), up_same]
    · show (upI (upI (upI (upI (upI (upI (upI (upI st0 94 12 0) 94 15 0) 94 18 0) 100 4 75) 100 5 0) 100 6 0) 100 7 0) 94 21 0).1 100 6 = 0
      rw [up_pl (by decide), up_ix (by decide), up_same]
    · show (upI (upI (upI (upI (upI (upI (upI (upI st0 94 12 0) 94 15 0) 94 18 0) 100 4 75) 100 5 0) 100 6 0) 100 7 0) 94 21 0).1 100 7 = 0
      rw [up_pl (by decide), up_same]
    all_goals
      have k1 : k < ((0 : Nat) : Int) := k1
      omega
  have s31 : st0.1 94 31 = -1 := rfl
  obtain ⟨m3, k1, k2, k3, ⟨k4, k5, k6, k7⟩, k8, k9⟩ := m_keepText (N := N) hN E0_val rfl (by decide) R (by rw [g _ _ (by omega) (by omega)]; exact s31)
  have f : ∀ y z, y < 97 → ¬ (y = 94 ∧ (z = 11 ∨ z = 14 ∨ z = 17 ∨ (24 ≤ z ∧ z ≤ 26) ∨ z = 33 ∨ z = 12 ∨ z = 15 ∨ z = 18 ∨ z = 21)) → m3.1 y z = st0.1 y z := fun y z q q1 => by rw [k8 y z (by omega) (by omega)]; exact g y z (by omega) (by omega)
  refine ⟨σ1, m3, p1, k1, 3, E0, 0, fun _ => E0, XC.mk0 (Or.inl rfl) (by rw [f _ _ (by omega) (by omega)]; rfl) ⟨⟨?_, ?_, ?_, ?_, ?_, ?_⟩, fun k k0 k1 => ?_, fun k k0 k1 => ?_, ?_, fun k k0 k1 => ?_⟩ ⟨?_, fun k k0 k1 => ?_⟩ (fun a b h1 h2 h3 => ⟨?_, ?_⟩) (by rw [f _ _ (by omega) (by omega)]; rfl) (by rw [f _ _ (by omega) (by omega)]; rfl), (by rw [f _ _ (by omega) (by omega)]; rfl), ⟨⟨k2, 0, Or.inl rfl, k4, k3⟩, k4, by rw [f _ _ (by omega) (by omega)]; rfl, by rw [f _ _ (by omega) (by omega)]; rfl, k7⟩, E0_val, val_gd E0_val rfl, ⟨by omega, by rw [f _ _ (by omega) (by omega)]; rfl, k5, rfl, fun k hk => absurd hk (Nat.not_lt_zero k)⟩, ⟨by rw [f _ _ (by omega) (by omega), k6]; rfl, Or.inl (by rw [f _ _ (by omega) (by omega)]; rfl)⟩, 0, by omega, ⟨by rw [f _ _ (by omega) (by omega)]; rfl, by rw [f _ _ (by omega) (by omega)]; rfl⟩, fun k hk => by omega, ⟨by rw [f _ _ (by omega) (by omega), f _ _ (by omega) (by omega)]; rfl, by rw [f _ _ (by omega) (by omega), f _ _ (by omega) (by omega)]; rfl⟩, fun k hk => by rw [f _ _ (by omega) (by omega)]; rfl⟩
  · rw [f _ _ (by omega) (by omega)]; rfl
  · rw [f _ _ (by omega) (by omega)]; rfl
  · rw [f _ _ (by omega) (by omega)]; rfl
  · rw [f _ _ (by omega) (by omega)]; rfl
  · rw [f _ _ (by omega) (by omega)]; rfl
  · rw [f _ _ (by omega) (by omega)]; rfl
  · have k1 : k < ((0 : Nat) : Int) := k1
    omega
  · have k1 : k < ((0 : Nat) : Int) := k1
    omega
  · rw [f _ _ (by omega) (by omega)]; rfl
  · have k1 : k < ((0 : Nat) : Int) := k1
    omega
  · rw [f _ _ (by omega) (by omega)]; rfl
  · have k1 : k < ((0 : Nat) : Int) := k1
    omega
  · rw [f _ _ (by omega) (by omega)]
    exact z0 _ _ (by omega) (by omega) (by omega) (by omega) (by omega) (by omega) (by omega) (by omega)
  · rw [k9]; rfl
end START
