/-! TEXT keeps the invariant -/
section STEXT
variable {N : Nat} {σ σ1 σ' : Sto} {b n u : Nat} {D : Dk} {Ds : Nat → Dk}
/-- behind a text that failed -/
theorem InvD.failed (I : InvD σ b D u Ds) {sb : Nat} (hs : sb + b = 19) {m' : Sto} (h1 : ∀ y z, y ≠ 1 → ¬ (sb ≤ y ∧ y ≤ sb + 12) → σ1.1 y z = σ.1 y z) (h2 : σ1.2 = σ.2) (h3 : FM2 σ1 m') (e1 : m'.1 1 1 = 0) (e2 : m'.1 1 9 = m'.1 94 4 ∧ m'.1 1 10 = m'.1 94 5) : InvD m' b D u Ds := by
  obtain ⟨i1, i2, i3, i4, i5, i6, i7, i8⟩ := I
  have hb := i1.1
  have vz := i4.sz
  have f : ∀ y z, y ≠ 1 → ¬ (sb ≤ y ∧ y ≤ sb + 12) → ¬ (y = 94 ∧ (z = 1 ∨ z = 2 ∨ (4 ≤ z ∧ z ≤ 10) ∨ z = 12 ∨ z = 15 ∨ z = 18 ∨ z = 21 ∨ z = 22)) → ¬ (y = 97 ∧ 24 ≤ z) → ¬ (y = 98 ∧ 48 ≤ z) → ¬ (y = 99 ∧ 64 ≤ z) → ¬ (y = 100 ∧ 4 ≤ z) → m'.1 y z = σ.1 y z := fun y z a1 a2 a3 a4 a5 a6 a7 => by rw [h3.1 y z a3 a4 a5 a6 a7]; exact h1 y z a1 a2
  have B0 := i3.b0
  obtain ⟨⟨j1, k0, j2, j3, j4⟩, j5, j6, j7, j8⟩ := i3
  refine ⟨i1.cg3 (fun a j q => f a j (by omega) (by omega) (by omega) (by omega) (by omega) (by omega) (by omega)) (i1.2.2.2.2.1.cg (fun j => f _ _ (by omega) (by omega) (by omega) (by omega) (by omega) (by omega) (by omega)) (fun j => by rw [h3.2.1, h2])), ?_, ⟨⟨?_, 0, Or.inl rfl, ?_, ?_⟩, ?_, ?_, ?_, ?_⟩, i4, i5, i6.cg (fun y z q => f y z (by omega) (by omega) (by omega) (by omega) (by omega) (by omega) (by omega)) (f _ _ (by omega) (by omega) (by omega) (by omega) (by omega) (by omega) (by omega)) (fun z hz => f _ _ (by omega) (by omega) (by omega) (by omega) (by omega) (by omega) (by omega)), i7.cg SameT.rf (fun y z p q => f y z (by omega) (by omega) (by omega) (by omega) (by omega) (by omega) (by omega)) (f _ _ (by omega) (by omega) (by omega) (by omega) (by omega) (by omega) (by omega)) (fun z p q => f _ _ (by omega) (by omega) (by omega) (by omega) (by omega) (by omega) (by omega)), ?_⟩
  · rw [f _ _ (by omega) (by omega) (by omega) (by omega) (by omega) (by omega) (by omega)]; exact i2
  · exact j1.cg2 i4 (fun j q => f _ _ (by omega) (by omega) (by omega) (by omega) (by omega) (by omega) (by omega)) (fun j q => f _ _ (by omega) (by omega) (by omega) (by omega) (by omega) (by omega) (by omega)) (fun j q => f _ _ (by omega) (by omega) (by omega) (by omega) (by omega) (by omega) (by omega)) (fun j q => f _ _ (by omega) (by omega) (by omega) (by omega) (by omega) (by omega) (by omega))
  · rw [f _ _ (by omega) (by omega) (by omega) (by omega) (by omega) (by omega) (by omega)]; exact j5
  · exact B0.cg (fun j _ _ => f _ _ (by omega) (by omega) (by omega) (by omega) (by omega) (by omega) (by omega)) i4
  · rw [f _ _ (by omega) (by omega) (by omega) (by omega) (by omega) (by omega) (by omega)]; exact j5
  · rw [f _ _ (by omega) (by omega) (by omega) (by omega) (by omega) (by omega) (by omega)]; exact j6
  · rw [f _ _ (by omega) (by omega) (by omega) (by omega) (by omega) (by omega) (by omega)]; exact j7
  · rw [f _ _ (by omega) (by omega) (by omega) (by omega) (by omega) (by omega) (by omega)]; exact j8
  · obtain ⟨t, -, -, -, -, w⟩ := i8
    exact ⟨0, by omega, ⟨e1, h3.2.2⟩, fun k hk => by omega, e2, fun k hk => by rw [f _ _ (by omega) (by omega) (by omega) (by omega) (by omega) (by omega) (by omega)]; exact w k hk⟩
theorem s_text (hN : BigN N) (H : INV σ) (x : Int) : Ask (F_X11_text N x σ) (fun σ1 => F_X12_text N x σ1) := by
  obtain ⟨b, D, u, Ds, I⟩ := H
  have I0 := I
  obtain ⟨i1, i2, i3, i4, i5, i6, i7, i8⟩ := I
  obtain ⟨t, t1, ⟨t2, t3⟩, t4, t5, t6⟩ := i8
  have hb := i1.1
  have no : ¬ (0 ≤ x ∧ x ≤ (t : Int)) → Ask (F_X11_text N x σ) (fun σ1 => F_X12_text N x σ1) := fun hx => by
    obtain ⟨M', m'⟩ := i3.up2 i4 0
    refine ⟨-2, σ, upI σ 94 2 0, ?_, ?_, b, D, u, Ds, I0.same (XSame.ro i1 RO.rf) M' m'⟩
    · unfold F_X11_text
      rw [t2]
      by_cases q : x < 0
      · rw [if_pos q]
      · rw [if_neg q, if_neg (by omega)]
    · show F_X12_text N x σ = _
      unfold F_X12_text
      rw [up_ix (by decide), t3]
      by_cases q : x < 0
      · rw [if_pos q]
      · rw [if_neg q, if_neg (by omega)]
  by_cases hx : 0 ≤ x ∧ x ≤ (t : Int)
  rotate_left
  · exact no hx
  obtain ⟨n, rfl⟩ : ∃ n : Nat, x = n := ⟨x.toNat, by omega⟩
  obtain ⟨sb, hs⟩ : ∃ sb : Nat, sb + b = 19 := ⟨19 - b, by omega⟩
  have hsb : sb = 3 ∨ sb = 16 := by omega
  have e02 : σ.1 0 2 = sb := by rw [i2]; omega
  have tail : ∀ τ : Sto, τ.1 94 1 = t → F_X12_text N n τ = mTail N n τ := fun τ h => by
    unfold F_X12_text mTail
    rw [if_neg (by omega), up_ix (by decide), h, if_pos (by omega)]
  have cls : F_X11_text N n σ = (F_X8_read N sb n σ).bind (fun q4 => if q4.1 = 0 then (some ((-1), q4.2)) else (asB (q4.2.1 0 2) (fun b6 => asB (q4.2.1 0 1) (fun b7 => (F_X5_clear N 29 (upI (upI q4.2 0 2 (b7 : Int)) 0 1 (b6 : Int))).bind (fun q8 => (F_X2_clear N q8).bind (fun q9 => (F_X11_forgetNet N (upI q9 35 3 0)).bind (fun q10 => some ((q10.1 1 7), q10)))))))) := by
    unfold F_X11_text
    rw [if_neg (by omega), t2, if_pos (by omega), e02, asB_in hsb]
  have hc : ∀ k : Nat, k < n → σ.1 2 k = (fun i : Nat => σ.1 2 i) k := fun _ _ => rfl
  have hm : ∀ τ : Sto, (∀ z, τ.1 95 z = σ.1 95 z) → ∀ k : Nat, k < n → (-128 ≤ (fun i : Nat => σ.1 2 i) k ∧ (fun i : Nat => σ.1 2 i) k ≤ 127) ∧ τ.1 95 k = (fun i : Nat => σ.1 2 i) k % 256 := fun τ h k hk => by
    have := t4 k (by omega)
    exact ⟨this.1, by rw [h]; exact this.2⟩
  have hw : ∀ τ : Sto, (∀ z, τ.1 96 z = σ.1 96 z) → ∀ k : Nat, k < 41 → τ.1 96 k = wrdC k := fun τ h k hk => by rw [h]; exact t6 k hk
  have rd : ∀ τ : Sto, (∀ z, τ.1 95 z = σ.1 95 z) → (∀ z, τ.1 96 z = σ.1 96 z) → _ := fun τ h h' => n_read (N := N) (b := sb) (n := n) (c := σ) (m := τ) (C := fun i : Nat => σ.1 2 i) hN hsb (by omega) hc (hm τ h) (hw τ h')
  rcases rd σ (fun _ => rfl) (fun _ => rfl) with ⟨c1, -, -, -, a1, -, -, a2, -⟩ | ⟨c1, -, a1, -, -, a2, -⟩
  · -- read: the new desk
    have g1 : ∀ y z, y ≠ 1 → ¬ (sb ≤ y ∧ y ≤ sb + 12) → c1.1 y z = σ.1 y z := a2.1
    let τ : Sto := upI (upI (upI (upI (upI (upI (upI c1 0 2 (b : Int)) 0 1 (sb : Int)) 29 3 0) 33 1 0) 35 3 0) 0 16 0) 0 17 0
    have f : ∀ y z, ¬ (y = 0 ∧ (z = 1 ∨ z = 2 ∨ z = 16 ∨ z = 17)) → ¬ (y = 29 ∧ z = 3) → ¬ (y = 33 ∧ z = 1) → ¬ (y = 35 ∧ z = 3) → τ.1 y z = c1.1 y z := fun y z q1 q2 q3 q4 => by
      show (upI (upI (upI (upI (upI (upI (upI c1 0 2 (b : Int)) 0 1 (sb : Int)) 29 3 0) 33 1 0) 35 3 0) 0 16 0) 0 17 0).1 y z = _
      rw [upI_ne (by omega), upI_ne (by omega), upI_ne (by omega), upI_ne (by omega), upI_ne (by omega), upI_ne (by omega), upI_ne (by omega)]
    have v1 : τ.1 0 1 = sb := by
      show (upI (upI (upI (upI (upI (upI (upI c1 0 2 (b : Int)) 0 1 (sb : Int)) 29 3 0) 33 1 0) 35 3 0) 0 16 0) 0 17 0).1 0 1 = _
      rw [up_ix (by decide), up_ix (by decide), up_pl (by decide), up_pl (by decide), up_pl (by decide), up_same]
    have v2 : τ.1 0 2 = b := by
      show (upI (upI (upI (upI (upI (upI (upI c1 0 2 (b : Int)) 0 1 (sb : Int)) 29 3 0) 33 1 0) 35 3 0) 0 16 0) 0 17 0).1 0 2 = _
      rw [up_ix (by decide), up_ix (by decide), up_pl (by decide), up_pl (by decide), up_pl (by decide), up_ix (by decide), up_same]
    have v29 : τ.1 29 3 = 0 := by
      show (upI (upI (upI (upI (upI (upI (upI c1 0 2 (b : Int)) 0 1 (sb : Int)) 29 3 0) 33 1 0) 35 3 0) 0 16 0) 0 17 0).1 29 3 = _
      rw [up_pl (by decide), up_pl (by decide), up_pl (by decide), up_pl (by decide), up_same]
    have v33 : τ.1 33 1 = 0 := by
      show (upI (upI (upI (upI (upI (upI (upI c1 0 2 (b : Int)) 0 1 (sb : Int)) 29 3 0) 33 1 0) 35 3 0) 0 16 0) 0 17 0).1 33 1 = _
      rw [up_pl (by decide), up_pl (by decide), up_pl (by decide), up_same]
    have v35 : τ.1 35 3 = 0 := by
      show (upI (upI (upI (upI (upI (upI (upI c1 0 2 (b : Int)) 0 1 (sb : Int)) 29 3 0) 33 1 0) 35 3 0) 0 16 0) 0 17 0).1 35 3 = _
      rw [up_pl (by decide), up_pl (by decide), up_same]
    have v16 : τ.1 0 16 = 0 := by
      show (upI (upI (upI (upI (upI (upI (upI c1 0 2 (b : Int)) 0 1 (sb : Int)) 29 3 0) 33 1 0) 35 3 0) 0 16 0) 0 17 0).1 0 16 = _
      rw [up_ix (by decide), up_same]
    have v17 : τ.1 0 17 = 0 := up_same
    have w02 : c1.1 0 2 = sb := by rw [g1 _ _ (by omega) (by omega)]; exact e02
    have w01 : c1.1 0 1 = b := by rw [g1 _ _ (by omega) (by omega)]; exact i1.2.1
    have o1 : F_X11_text N n σ = some (τ.1 1 7, τ) := by
      rw [cls, a1, Option.bind_some, if_neg (show ¬ (1 : Int) = 0 by decide)]
      show asB (c1.1 0 2) (fun b6 => asB (c1.1 0 1) (fun b7 => (F_X5_clear N 29 (upI (upI c1 0 2 (b7 : Int)) 0 1 (b6 : Int))).bind (fun q8 => (F_X2_clear N q8).bind (fun q9 => (F_X11_forgetNet N (upI q9 35 3 0)).bind (fun q10 => some ((q10.1 1 7), q10)))))) = _
      rw [w02, asB_in hsb, w01, asB_in hb]
      rfl
    have r94 : ∀ y z, 94 ≤ y → τ.1 y z = σ.1 y z := fun y z q => by rw [f y z (by omega) (by omega) (by omega) (by omega)]; exact g1 y z (by omega) (by omega)
    rcases rd τ (fun z => r94 _ _ (by omega)) (fun z => r94 _ _ (by omega)) with ⟨c2, m2, E, L, d1, d2, d3, d4, d5⟩ | ⟨c2, m2, d1, -, -, -, -⟩
    rotate_left
    · rw [a1] at d1
      have : (1 : Int) = 0 := congrArg Prod.fst (Option.some.inj d1)
      omega
    have ec : c2 = c1 := by rw [a1] at d1; exact (congrArg Prod.snd (Option.some.inj d1)).symm
    subst ec
    obtain ⟨x1, x2, x3, x4, x5, x6, x7, x8, x9, x10, x11, x12⟩ := d3
    have q31 : m2.1 94 31 = -1 := by rw [d5.1 _ _ (by omega) (by omega) (by omega) (by omega) (by omega), r94 _ _ (by omega)]; exact i3.2.2.2.1
    have q38 : m2.1 94 38 = -1 := by rw [d5.1 _ _ (by omega) (by omega) (by omega) (by omega) (by omega), r94 _ _ (by omega)]; exact i3.2.2.1
    obtain ⟨m3, k1, k2, k3, ⟨k4, k5, k6, k7⟩, k8, k9⟩ := m_keepText (N := N) hN x5 x6 x7 x4 q31
    have f3 : ∀ y z, y < 94 → m3.1 y z = τ.1 y z := fun y z q => by rw [k8 y z (by omega) (by omega)]; exact d5.1 y z (by omega) (by omega) (by omega) (by omega) (by omega)
    have f4 : ∀ y z, y < 94 → ¬ (y = 0 ∧ (z = 1 ∨ z = 2 ∨ z = 16 ∨ z = 17)) → ¬ (y = 29 ∧ z = 3) → ¬ (y = 33 ∧ z = 1) → ¬ (y = 35 ∧ z = 3) → m3.1 y z = c2.1 y z := fun y z q q1 q2 q3 q4 => by rw [f3 y z q]; exact f y z q1 q2 q3 q4
    refine ⟨L, τ, m3, ?_, ?_, sb, E, 0, fun _ => E, ?_, ?_, ⟨⟨k2, 0, Or.inl rfl, k4, k3⟩, k4, ?_, ?_, k7⟩, x5, val_gd x5 x6, ⟨by omega, ?_, k5, rfl, fun k hk => absurd hk (Nat.not_lt_zero k)⟩, ⟨?_, Or.inl ?_⟩, ?_⟩
    · rw [o1, f _ _ (by omega) (by omega) (by omega) (by omega), x9]
    · show F_X12_text N n τ = _
      rw [tail τ (by rw [r94 _ _ (by omega)]; exact t3), d2]
      unfold F_X12_text_J77
      rw [k1, Option.bind_some]
    · refine XC.mk0 hsb (by rw [f3 _ _ (by omega)]; exact v1) (x3.cg (fun a j p q => f4 a j (by omega) (by omega) (by omega) (by omega) (by omega))) ⟨by rw [f3 _ _ (by omega), v29, x6]; rfl, fun k h0 h1 => by omega⟩ (i1.2.2.2.2.1.cg (fun j => ?_) (fun j => ?_)) (by rw [f3 _ _ (by omega)]; exact v16) (by rw [f3 _ _ (by omega)]; exact v17)
      · rw [f4 _ _ (by omega) (by omega) (by omega) (by omega) (by omega)]; exact g1 _ _ (by omega) (by omega)
      · rw [k9, d5.2.1]
        show c2.2 49 j = _
        rw [a2.2.1]
    · rw [f3 _ _ (by omega), v2]; omega
    · rw [k8 _ _ (by omega) (by omega)]; exact q38
    · rw [k8 _ _ (by omega) (by omega)]; exact q31
    · rw [f3 _ _ (by omega), v33]; rfl
    · rw [f3 _ _ (by omega), v35, k6]
    · rw [f3 _ _ (by omega), v35]
    · refine ⟨0, by omega, ⟨?_, ?_⟩, fun k hk => by omega, ⟨?_, ?_⟩, fun k hk => ?_⟩
      · rw [f4 _ _ (by omega) (by omega) (by omega) (by omega) (by omega)]; exact a2.2.2
      · rw [k8 _ _ (by omega) (by omega)]; exact d5.2.2
      · rw [f4 _ _ (by omega) (by omega) (by omega) (by omega) (by omega), k8 _ _ (by omega) (by omega)]; exact x10
      · rw [f4 _ _ (by omega) (by omega) (by omega) (by omega) (by omega), k8 _ _ (by omega) (by omega)]; exact x11
      · rw [k8 _ _ (by omega) (by omega), d5.1 _ _ (by omega) (by omega) (by omega) (by omega) (by omega), r94 _ _ (by omega)]; exact t6 k hk
  · have g1 : ∀ y z, y ≠ 1 → ¬ (sb ≤ y ∧ y ≤ sb + 12) → c1.1 y z = σ.1 y z := a2.1
    rcases rd c1 (fun z => g1 _ _ (by omega) (by omega)) (fun z => g1 _ _ (by omega) (by omega)) with ⟨c2, m2, E, L, d1, -, -, -, -⟩ | ⟨c2, m2, d1, d2, d3, d4, d5⟩
    · rw [a1] at d1
      have : (0 : Int) = 1 := congrArg Prod.fst (Option.some.inj d1)
      omega
    have ec : c2 = c1 := by rw [a1] at d1; exact (congrArg Prod.snd (Option.some.inj d1)).symm
    subst ec
    refine ⟨-1, c2, m2, ?_, ?_, b, D, u, Ds, I0.failed hs g1 a2.2.1 d5 ?_ ⟨?_, ?_⟩⟩
    · rw [cls, a1, Option.bind_some, if_pos (show (0 : Int) = 0 from rfl)]
    · show F_X12_text N n c2 = _
      rw [tail c2 (by rw [g1 _ _ (by omega) (by omega)]; exact t3)]
      exact d2
    · rw [d5.1 _ _ (by omega) (by omega) (by omega) (by omega) (by omega)]; exact a2.2.2
    · rw [d5.1 _ _ (by omega) (by omega) (by omega) (by omega) (by omega)]; exact d3.1
    · rw [d5.1 _ _ (by omega) (by omega) (by omega) (by omega) (by omega)]; exact d3.2
end STEXT
