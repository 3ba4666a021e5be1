/-! the reference takes over what it has read -/
section KEEPT
variable {N : Nat} {m m' : Sto} {E : Dk}
theorem m_copies (hN : BigN N) {y h : Nat} (hk : ((knd y).2 : Int) = 2 * h) (hh : h ≤ 64) : ∃ m', F_X12_copies N y (h : Int) m = some m' ∧ (∀ i : Int, 0 ≤ i → i < h → m'.1 y i = m.1 y (h + i)) ∧ (∀ a z, ¬ (a = y ∧ 0 ≤ z ∧ z < (h : Int)) → m'.1 a z = m.1 a z) ∧ m'.2 = m.2 := by
  unfold F_X12_copies
  obtain ⟨s, ⟨e1, e2, e3, e4⟩, e5⟩ := loop_A (b := fun q nx2 => F_X12_copies_B2 N nx2 y (h : Int) q.1 q.2) (fin := fun q : Int × Sto => some q.2) (N := N) (s0 := ((0 : Int), m)) (fun k s => s.1 = (k : Int) ∧ (∀ i : Int, 0 ≤ i → i < k → s.2.1 y i = m.1 y (h + i)) ∧ (∀ a z, ¬ (a = y ∧ 0 ≤ z ∧ z < (k : Int)) → s.2.1 a z = m.1 a z) ∧ s.2.2 = m.2) h (bigN hN) ⟨rfl, fun i i0 i1 => by omega, fun _ _ _ => rfl, rfl⟩ (fun k s hk' hI => by
    obtain ⟨q, τ⟩ := s
    obtain ⟨rfl, i2, i3, i4⟩ := hI
    have i2 : ∀ i : Int, 0 ≤ i → i < k → τ.1 y i = m.1 y (h + i) := i2
    have i3 : ∀ a z, ¬ (a = y ∧ 0 ≤ z ∧ z < (k : Int)) → τ.1 a z = m.1 a z := i3
    refine ⟨(((k + 1 : Nat) : Int), upI τ y k (τ.1 y (h + k))), ⟨rfl, fun i x0 x1 => ?_, fun a z q => ?_, i4⟩, fun nx => ?_⟩
    · show (upI τ y k (τ.1 y (h + k))).1 y i = _
      by_cases e : i = k
      · rw [e, up_same, i3 _ _ (by omega)]
      · rw [up_ix e]; exact i2 i x0 (by omega)
    · show (upI τ y k (τ.1 y (h + k))).1 a z = _
      rw [upI_ne (by omega)]; exact i3 a z (by omega)
    · show F_X12_copies_B2 N nx y (h : Int) (k : Int) τ = _
      unfold F_X12_copies_B2
      rw [if_neg (by omega), hk, ja_eq ⟨by omega, by omega⟩, inb_in (by omega), inb_in (by omega), ja_1 (by omega) (by omega), show (k : Int) + 1 = ((k + 1 : Nat) : Int) by omega]) (fun s hI nx => by
    obtain ⟨q, τ⟩ := s
    obtain ⟨rfl, i2, i3, i4⟩ := hI
    show F_X12_copies_B2 N nx y (h : Int) (h : Int) τ = _
    unfold F_X12_copies_B2
    rw [if_pos (Int.le_refl _)])
  exact ⟨s.2, e5, e2, e3, e4⟩
theorem m_lay0 {k v : Int} (h24 : m.1 94 24 = 0) (h0 : 0 ≤ k) (h1 : k < 200) : F_X12_lay N k v m = some (upI m 101 k v) := by
  rw [m_lay (Or.inl rfl) h24 h0 h1, show 200 * (0 : Int) + k = k by omega]
theorem m_lay1 (hN : BigN N) {P : Nat} (hP : P ≤ 12) (h24 : m.1 94 24 = 0) (h14 : m.1 94 14 = P) : ∃ m', loopK (fun q nx102 => F_X12_keepText_B102 N nx102 q.1 q.2) N (0, m) = F_X12_keepText_J134 N m' ∧ (∀ i : Int, 0 ≤ i → i < P → m'.1 101 (91 + i) = m.1 98 (4 * i + 3)) ∧ (∀ a z, ¬ (a = 101 ∧ 91 ≤ z ∧ z < 91 + (P : Int)) → m'.1 a z = m.1 a z) ∧ m'.2 = m.2 := by
  obtain ⟨s, ⟨e1, e2, e3, e4⟩, e5⟩ := loop_A (b := fun q nx102 => F_X12_keepText_B102 N nx102 q.1 q.2) (fin := fun q : Int × Sto => F_X12_keepText_J134 N q.2) (N := N) (s0 := ((0 : Int), m)) (fun k s => s.1 = (k : Int) ∧ (∀ i : Int, 0 ≤ i → i < k → s.2.1 101 (91 + i) = m.1 98 (4 * i + 3)) ∧ (∀ a z, ¬ (a = 101 ∧ 91 ≤ z ∧ z < 91 + (k : Int)) → s.2.1 a z = m.1 a z) ∧ s.2.2 = m.2) P (bigN hN) ⟨rfl, fun i i0 i1 => by omega, fun _ _ _ => rfl, rfl⟩ (fun k s hk' hI => by
    obtain ⟨q, τ⟩ := s
    obtain ⟨rfl, i2, i3, i4⟩ := hI
    have i2 : ∀ i : Int, 0 ≤ i → i < k → τ.1 101 (91 + i) = m.1 98 (4 * i + 3) := i2
    have i3 : ∀ a z, ¬ (a = 101 ∧ 91 ≤ z ∧ z < 91 + (k : Int)) → τ.1 a z = m.1 a z := i3
    refine ⟨(((k + 1 : Nat) : Int), upI τ 101 (91 + k) (τ.1 98 (4 * k + 3))), ⟨rfl, fun i x0 x1 => ?_, fun a z q => ?_, i4⟩, fun nx => ?_⟩
    · show (upI τ 101 (91 + k) (τ.1 98 (4 * k + 3))).1 101 (91 + i) = _
      by_cases e : i = k
      · rw [e, up_same, i3 _ _ (by omega)]
      · rw [up_ix (by omega)]; exact i2 i x0 (by omega)
    · show (upI τ 101 (91 + k) (τ.1 98 (4 * k + 3))).1 a z = _
      rw [upI_ne (by omega)]; exact i3 a z (by omega)
    · show F_X12_keepText_B102 N nx (k : Int) τ = _
      have j1 : ja (jm 4 (k : Int)) 3 = 4 * k + 3 := by rw [jm_eq ⟨by omega, by omega⟩, ja_eq ⟨by omega, by omega⟩]
      unfold F_X12_keepText_B102
      rw [i3 94 14 (by omega), h14, if_neg (by omega), j1, inb_in (by omega), ja_eq ⟨by omega, by omega⟩, m_lay0 (by rw [i3 _ _ (by omega)]; exact h24) (by omega) (by omega), Option.bind_some, ja_1 (by omega) (by omega), show (k : Int) + 1 = ((k + 1 : Nat) : Int) by omega]) (fun s hI nx => by
    obtain ⟨q, τ⟩ := s
    obtain ⟨rfl, i2, i3, i4⟩ := hI
    have i3 : ∀ a z, ¬ (a = 101 ∧ 91 ≤ z ∧ z < 91 + (P : Int)) → τ.1 a z = m.1 a z := i3
    show F_X12_keepText_B102 N nx (P : Int) τ = _
    unfold F_X12_keepText_B102
    rw [i3 94 14 (by omega), h14, if_pos (Int.le_refl _)])
  exact ⟨s.2, e5, e2, e3, e4⟩
theorem m_lay2 (hN : BigN N) {P : Nat} (hP : P ≤ 16) (h24 : m.1 94 24 = 0) (h17 : m.1 94 17 = P) : ∃ m', F_X12_keepText_J134 N m = some m' ∧ (∀ i : Int, 0 ≤ i → i < 4 * (P : Int) → m'.1 101 (104 + i) = m.1 99 i) ∧ (∀ a z, ¬ (a = 101 ∧ 104 ≤ z ∧ z < 104 + 4 * (P : Int)) → m'.1 a z = m.1 a z) ∧ m'.2 = m.2 := by
  unfold F_X12_keepText_J134
  have j4 : jm 4 (P : Int) = 4 * P := jm_eq ⟨by omega, by omega⟩
  obtain ⟨s, ⟨e1, e2, e3, e4⟩, e5⟩ := loop_A (b := fun q nx136 => F_X12_keepText_B136 N nx136 q.1 q.2) (fin := fun q : Int × Sto => some q.2) (N := N) (s0 := ((0 : Int), m)) (fun k s => s.1 = (k : Int) ∧ (∀ i : Int, 0 ≤ i → i < k → s.2.1 101 (104 + i) = m.1 99 i) ∧ (∀ a z, ¬ (a = 101 ∧ 104 ≤ z ∧ z < 104 + (k : Int)) → s.2.1 a z = m.1 a z) ∧ s.2.2 = m.2) (4 * P) (bigN hN) ⟨rfl, fun i i0 i1 => by omega, fun _ _ _ => rfl, rfl⟩ (fun k s hk' hI => by
    obtain ⟨q, τ⟩ := s
    obtain ⟨rfl, i2, i3, i4⟩ := hI
    have i2 : ∀ i : Int, 0 ≤ i → i < k → τ.1 101 (104 + i) = m.1 99 i := i2
    have i3 : ∀ a z, ¬ (a = 101 ∧ 104 ≤ z ∧ z < 104 + (k : Int)) → τ.1 a z = m.1 a z := i3
    refine ⟨(((k + 1 : Nat) : Int), upI τ 101 (104 + k) (τ.1 99 k)), ⟨rfl, fun i x0 x1 => ?_, fun a z q => ?_, i4⟩, fun nx => ?_⟩
    · show (upI τ 101 (104 + k) (τ.1 99 k)).1 101 (104 + i) = _
      by_cases e : i = k
      · rw [e, up_same, i3 _ _ (by omega)]
      · rw [up_ix (by omega)]; exact i2 i x0 (by omega)
    · show (upI τ 101 (104 + k) (τ.1 99 k)).1 a z = _
      rw [upI_ne (by omega)]; exact i3 a z (by omega)
    · show F_X12_keepText_B136 N nx (k : Int) τ = _
      unfold F_X12_keepText_B136
      rw [i3 94 17 (by omega), h17, j4, if_neg (by omega), inb_in (by omega), ja_eq ⟨by omega, by omega⟩, m_lay0 (by rw [i3 _ _ (by omega)]; exact h24) (by omega) (by omega), Option.bind_some, ja_1 (by omega) (by omega), show (k : Int) + 1 = ((k + 1 : Nat) : Int) by omega]) (fun s hI nx => by
    obtain ⟨q, τ⟩ := s
    obtain ⟨rfl, i2, i3, i4⟩ := hI
    have i3 : ∀ a z, ¬ (a = 101 ∧ 104 ≤ z ∧ z < 104 + ((4 * P : Nat) : Int)) → τ.1 a z = m.1 a z := i3
    show F_X12_keepText_B136 N nx ((4 * P : Nat) : Int) τ = _
    unfold F_X12_keepText_B136
    rw [i3 94 17 (by omega), h17, j4, if_pos (by omega)])
  exact ⟨s.2, e5, fun i i0 i1 => e2 i i0 (by omega), fun a z q => e3 a z (by omega), e4⟩
theorem m_keepText (hN : BigN N) (V : Val E) (h0 : dc E = 0) (hn : dn E ≤ 16) (R : RdM m E) (h31 : m.1 94 31 = -1) : ∃ m', F_X12_keepText N m = some m' ∧ TxM m' E ∧ BkM m' 0 E ∧ (m'.1 94 24 = 0 ∧ m'.1 94 25 = 0 ∧ m'.1 94 26 = 0 ∧ m'.1 100 3 = E.2 0 3) ∧ (∀ y z, ¬ (y = 94 ∧ (z = 11 ∨ z = 14 ∨ z = 17 ∨ (24 ≤ z ∧ z ≤ 26) ∨ z = 33)) → ¬ (97 ≤ y ∧ y ≤ 101) → m'.1 y z = m.1 y z) ∧ m'.2 = m.2 := by
  have vz := V.sz
  obtain ⟨⟨r1, r2, r3, r4, r5, r6, r7⟩, r8, r9, r10⟩ := R
  unfold F_X12_keepText
  have z1 : upI (upI (upI m 94 11 (m.1 94 12)) 94 14 ((upI m 94 11 (m.1 94 12)).1 94 15)) 94 17 ((upI (upI m 94 11 (m.1 94 12)) 94 14 ((upI m 94 11 (m.1 94 12)).1 94 15)).1 94 18) = upI (upI (upI m 94 11 (dm E : Int)) 94 14 (dp E : Int)) 94 17 (dn E : Int) := by
    rw [up_ix (σ := m) (by decide), up_ix (σ := upI m 94 11 (m.1 94 12)) (by decide), up_ix (σ := m) (by decide), r1, r2, r3]
  rw [z1]
  obtain ⟨m1, a1, a2, a3, a4⟩ := m_copies (N := N) (m := upI (upI (upI m 94 11 (dm E : Int)) 94 14 (dp E : Int)) 94 17 (dn E : Int)) hN (y := 97) (h := 24) (by decide) (by decide)
  have a1 : F_X12_copies N 97 24 (upI (upI (upI m 94 11 (dm E : Int)) 94 14 (dp E : Int)) 94 17 (dn E : Int)) = some m1 := a1
  obtain ⟨m2, b1, b2, b3, b4⟩ := m_copies (N := N) (m := m1) hN (y := 98) (h := 48) (by decide) (by decide)
  have b1 : F_X12_copies N 98 48 m1 = some m2 := b1
  obtain ⟨m3, c1, c2, c3, c4⟩ := m_copies (N := N) (m := m2) hN (y := 99) (h := 64) (by decide) (by decide)
  have c1 : F_X12_copies N 99 64 m2 = some m3 := c1
  obtain ⟨m4, d1, d2, d3, d4⟩ := m_copies (N := N) (m := m3) hN (y := 100) (h := 4) (by decide) (by decide)
  have d1 : F_X12_copies N 100 4 m3 = some m4 := d1
  have a2 : ∀ i : Int, 0 ≤ i → i < 24 → m1.1 97 i = m.1 97 (24 + i) := fun i i0 i1 => by rw [a2 i i0 (by omega), up_pl (by decide), up_pl (by decide), up_pl (by decide)]; rfl
  have a3 : ∀ a z, ¬ (a = 97 ∧ 0 ≤ z ∧ z < 24) → m1.1 a z = (upI (upI (upI m 94 11 (dm E : Int)) 94 14 (dp E : Int)) 94 17 (dn E : Int)).1 a z := fun a z q => a3 a z (by omega)
  have b2 : ∀ i : Int, 0 ≤ i → i < 48 → m2.1 98 i = m.1 98 (48 + i) := fun i i0 i1 => by rw [b2 i i0 (by omega), a3 _ _ (by omega), up_pl (by decide), up_pl (by decide), up_pl (by decide)]; rfl
  have b3 : ∀ a z, ¬ (a = 98 ∧ 0 ≤ z ∧ z < 48) → m2.1 a z = m1.1 a z := fun a z q => b3 a z (by omega)
  have c2 : ∀ i : Int, 0 ≤ i → i < 64 → m3.1 99 i = m.1 99 (64 + i) := fun i i0 i1 => by rw [c2 i i0 (by omega), b3 _ _ (by omega), a3 _ _ (by omega), up_pl (by decide), up_pl (by decide), up_pl (by decide)]; rfl
  have c3 : ∀ a z, ¬ (a = 99 ∧ 0 ≤ z ∧ z < 64) → m3.1 a z = m2.1 a z := fun a z q => c3 a z (by omega)
  have d2 : ∀ i : Int, 0 ≤ i → i < 4 → m4.1 100 i = m.1 100 (4 + i) := fun i i0 i1 => by rw [d2 i i0 (by omega), c3 _ _ (by omega), b3 _ _ (by omega), a3 _ _ (by omega), up_pl (by decide), up_pl (by decide), up_pl (by decide)]; rfl
  have d3 : ∀ a z, ¬ (a = 100 ∧ 0 ≤ z ∧ z < 4) → m4.1 a z = m3.1 a z := fun a z q => d3 a z (by omega)
  rw [a1, Option.bind_some, b1, Option.bind_some, c1, Option.bind_some, d1, Option.bind_some, inb_in (by omega)]
  let m5 : Sto := upI (upI (upI (upI m4 94 33 (m4.1 100 3)) 94 24 0) 94 25 0) 94 26 0
  have f5 : ∀ y z, ¬ (y = 94 ∧ ((24 ≤ z ∧ z ≤ 26) ∨ z = 33)) → m5.1 y z = m4.1 y z := fun y z q => by show (upI (upI (upI (upI m4 94 33 (m4.1 100 3)) 94 24 0) 94 25 0) 94 26 0).1 y z = _; rw [upI_ne (by omega), upI_ne (by omega), upI_ne (by omega), upI_ne (by omega)]
  have g24 : m5.1 94 24 = 0 := by show (upI (upI (upI (upI m4 94 33 (m4.1 100 3)) 94 24 0) 94 25 0) 94 26 0).1 94 24 = _; rw [up_ix (by decide), up_ix (by decide), up_same]
  have g25 : m5.1 94 25 = 0 := by show (upI (upI (upI (upI m4 94 33 (m4.1 100 3)) 94 24 0) 94 25 0) 94 26 0).1 94 25 = _; rw [up_ix (by decide), up_same]
  have g26 : m5.1 94 26 = 0 := up_same
  have g33 : m5.1 94 33 = E.2 0 3 := by show (upI (upI (upI (upI m4 94 33 (m4.1 100 3)) 94 24 0) 94 25 0) 94 26 0).1 94 33 = _; rw [up_ix (by decide), up_ix (by decide), up_ix (by decide), up_same, d2 3 (by decide) (by decide)]; exact r7
  have g17 : m5.1 94 17 = dn E := by rw [f5 _ _ (by omega), d3 _ _ (by omega), c3 _ _ (by omega), b3 _ _ (by omega), a3 _ _ (by omega), up_same]
  have g14 : m5.1 94 14 = dp E := by rw [f5 _ _ (by omega), d3 _ _ (by omega), c3 _ _ (by omega), b3 _ _ (by omega), a3 _ _ (by omega), up_ix (by decide), up_same]
  have g11 : m5.1 94 11 = dm E := by rw [f5 _ _ (by omega), d3 _ _ (by omega), c3 _ _ (by omega), b3 _ _ (by omega), a3 _ _ (by omega), up_ix (by decide), up_ix (by decide), up_same]
  show ∃ m', (F_X12_lay N 0 0 m5).bind _ = some m' ∧ _
  rw [m_lay0 g24 (by decide) (by decide), Option.bind_some, up_pl (by decide), g17, m_lay0 (by rw [up_pl (by decide)]; exact g24) (by decide) (by decide), Option.bind_some]
  let m6 : Sto := upI (upI m5 101 0 0) 101 103 (dn E : Int)
  have f6 : ∀ y z, y ≠ 101 → m6.1 y z = m5.1 y z := fun y z q => by show (upI (upI m5 101 0 0) 101 103 (dn E : Int)).1 y z = _; rw [up_pl q, up_pl q]
  obtain ⟨m7, k1, k2, k3, k4⟩ := m_lay1 (N := N) (m := m6) hN (P := dp E) vz.2.1 (by rw [f6 _ _ (by decide)]; exact g24) (by rw [f6 _ _ (by decide)]; exact g14)
  obtain ⟨m8, l1, l2, l3, l4⟩ := m_lay2 (N := N) (m := m7) hN (P := dn E) hn (by rw [k3 _ _ (by omega), f6 _ _ (by decide)]; exact g24) (by rw [k3 _ _ (by omega), f6 _ _ (by decide)]; exact g17)
  have f8 : ∀ y z, y ≠ 101 → m8.1 y z = m5.1 y z := fun y z q => by rw [l3 _ _ (by omega), k3 _ _ (by omega), f6 _ _ q]
  have t97 : ∀ i : Int, 0 ≤ i → i < 24 → m8.1 97 i = m.1 97 (24 + i) := fun i i0 i1 => by rw [f8 _ _ (by decide), f5 _ _ (by omega), d3 _ _ (by omega), c3 _ _ (by omega), b3 _ _ (by omega)]; exact a2 i i0 i1
  have s98 : ∀ i : Int, 0 ≤ i → i < 48 → m5.1 98 i = m.1 98 (48 + i) := fun i i0 i1 => by rw [f5 _ _ (by omega), d3 _ _ (by omega), c3 _ _ (by omega)]; exact b2 i i0 i1
  have s99 : ∀ i : Int, 0 ≤ i → i < 64 → m5.1 99 i = m.1 99 (64 + i) := fun i i0 i1 => by rw [f5 _ _ (by omega), d3 _ _ (by omega)]; exact c2 i i0 i1
  have t100 : ∀ i : Int, 0 ≤ i → i < 4 → m8.1 100 i = m.1 100 (4 + i) := fun i i0 i1 => by rw [f8 _ _ (by decide), f5 _ _ (by omega)]; exact d2 i i0 i1
  have h31' : m8.1 94 31 = -1 := by rw [f8 _ _ (by decide), f5 _ _ (by omega), d3 _ _ (by omega), c3 _ _ (by omega), b3 _ _ (by omega), a3 _ _ (by omega), up_ix (by decide), up_ix (by decide), up_ix (by decide)]; exact h31
  refine ⟨m8, k1.trans l1, ⟨⟨?_, ?_, ?_, ?_, ?_, ?_⟩, fun k x0 x1 => ?_, fun p x0 x1 => ?_⟩, ⟨⟨?_, ?_⟩, fun k x0 x1 => ?_, fun p x0 x1 => ?_, fun k x0 x1 => ?_⟩, ⟨?_, ?_, ?_, ?_⟩, fun y z q1 q2 => ?_, ?_⟩
  · rw [f8 _ _ (by decide)]; exact g11
  · rw [f8 _ _ (by decide)]; exact g14
  · rw [t100 _ (by decide) (by decide)]; exact r4
  · rw [t100 _ (by decide) (by decide)]; exact r5
  · rw [t100 _ (by decide) (by decide)]; exact r6
  · rw [f8 _ _ (by decide)]; exact g33
  · have r := r8 k x0 x1
    rw [t97 _ (by omega) (by omega), t97 (3 * k + 1) (by omega) (by omega), t97 (3 * k + 2) (by omega) (by omega), show 24 + (3 * k + 1) = 24 + 3 * k + 1 by omega, show 24 + (3 * k + 2) = 24 + 3 * k + 2 by omega]
    exact r
  · have r := r9 p x0 x1
    rw [h31', if_neg (by omega), f8 _ _ (by decide), f8 98 (4 * p + 1) (by decide), f8 98 (4 * p + 2) (by decide), s98 _ (by omega) (by omega), s98 (4 * p + 1) (by omega) (by omega), s98 (4 * p + 2) (by omega) (by omega), show 48 + (4 * p + 1) = 48 + 4 * p + 1 by omega, show 48 + (4 * p + 2) = 48 + 4 * p + 2 by omega]
    exact ⟨r.1, r.2.1, r.2.2.1⟩
  · rw [l3 _ _ (by omega), k3 _ _ (by omega), h0]
    show (upI (upI m5 101 0 0) 101 103 (dn E : Int)).1 101 0 = 0
    rw [up_ix (by decide), up_same]
  · rw [l3 _ _ (by omega), k3 _ _ (by omega)]
    show (upI (upI m5 101 0 0) 101 103 (dn E : Int)).1 101 103 = dn E
    rw [up_same]
  · omega
  · have r := r9 p x0 x1
    rw [show 200 * (0 : Int) + (91 + p) = 91 + p by omega, l3 _ _ (by omega), k2 p x0 x1, f6 _ _ (by decide), s98 _ (by omega) (by omega), show 48 + (4 * p + 3) = 48 + 4 * p + 3 by omega]
    exact r.2.2.2
  · have r := r10 k x0 x1
    have u : ∀ i : Int, 0 ≤ i → i < 4 * (dn E : Int) → m8.1 101 (104 + i) = m.1 99 (64 + i) := fun i i0 i1 => by rw [l2 i i0 i1, k3 _ _ (by omega), f6 _ _ (by decide), s99 _ i0 (by omega)]
    rw [show 200 * (0 : Int) + (104 + 4 * k) = 104 + 4 * k by omega, show 200 * (0 : Int) + (104 + 4 * k + 1) = 104 + (4 * k + 1) by omega, show 200 * (0 : Int) + (104 + 4 * k + 2) = 104 + (4 * k + 2) by omega, show 200 * (0 : Int) + (104 + 4 * k + 3) = 104 + (4 * k + 3) by omega, u _ (by omega) (by omega), u (4 * k + 1) (by omega) (by omega), u (4 * k + 2) (by omega) (by omega), u (4 * k + 3) (by omega) (by omega), show 64 + (4 * k + 1) = 64 + 4 * k + 1 by omega, show 64 + (4 * k + 2) = 64 + 4 * k + 2 by omega, show 64 + (4 * k + 3) = 64 + 4 * k + 3 by omega]
    exact r
  · rw [f8 _ _ (by decide)]; exact g24
  · rw [f8 _ _ (by decide)]; exact g25
  · rw [f8 _ _ (by decide)]; exact g26
  · rw [t100 _ (by decide) (by decide)]; exact r7
  · rw [f8 _ _ (by omega), f5 _ _ (by omega), d3 _ _ (by omega), c3 _ _ (by omega), b3 _ _ (by omega), a3 _ _ (by omega), upI_ne (by omega), upI_ne (by omega), upI_ne (by omega)]
  · rw [l4, k4]
    show m4.2 = m.2
    rw [d4, c4, b4, a4]; rfl
end KEEPT
