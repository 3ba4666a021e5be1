/-! CLAIM ALL that is relieved -/
section CAL
variable {N : Nat} {σ : Sto} {b : Nat} {D : Dk}
noncomputable def caE (D : Dk) : Nat → Dk
  | 0 => D
  | k + 1 => if rl D (k / 12) (k % 12) ≤ 0 ∨ 30 ≤ dc (caE D k) then caE D k else addC (caE D k) ((k / 12 : Nat) : Int) ((k % 12 : Nat) : Int) (rl D (k / 12) (k % 12))
theorem caE_s (k : Nat) : caE D (k + 1) = if rl D (k / 12) (k % 12) ≤ 0 ∨ 30 ≤ dc (caE D k) then caE D k else addC (caE D k) ((k / 12 : Nat) : Int) ((k % 12 : Nat) : Int) (rl D (k / 12) (k % 12)) := rfl
noncomputable def hTo (D : Dk) (p : Int) : Nat → Nat → Int := fun i j => if (i : Int) = p ∨ (j : Int) = p then rl D i j else 0
theorem pL_opn (u : Nat) : pL D G0 u = opn D u := by
  unfold pL opn tkG takOf
  rw [if_neg (fun z : (false : Bool) = true => absurd z (by decide))]
  congr 1
  refine sumTo_congr (fun k _ => ?_)
  unfold tkF takF
  by_cases h : D.2 12 (k : Int) = u ∨ D.2 13 (k : Int) = u
  · rw [if_pos ⟨h, rfl, rfl⟩, if_pos h]
  · rw [if_neg (fun z => h z.1), if_neg h]
theorem rl_sgn (V : Val D) (K : GdD D) (R : RD D) (i j : Nat) (h : 0 ≤ D.2 7 (i : Int) ∨ D.2 7 (j : Int) ≤ 0) : rl D i j = 0 := by
  have a := rl_bd V V.fok K R i j
  have a1 : (0 ≤ rl D i j ∧ rl D i j ≤ 99999) ∧ (0 < rl D i j → lnk D (cD D) (D.2 5) i j = true) := a
  by_cases q : 0 < rl D i j
  · have lq := lnk_iff.mp (a1.2 q); omega
  · omega
theorem hTo_bd (V : Val D) (K : GdD D) (R : RD D) (p : Int) (i j : Nat) : 0 ≤ hTo D p i j := by
  have a1 : (0 ≤ rl D i j ∧ rl D i j ≤ 99999) := (rl_bd V V.fok K R i j).1
  unfold hTo
  split <;> omega
/-- no more is claimed on a PERIOD than what was open -/
theorem hTo_le (V : Val D) (K : GdD D) (R : RD D) {p : Nat} (hp : p < dp D) : s2 (hTo D (p : Int)) 12 ≤ opn D p := by
  have vz := V.sz
  have C : Cons (dp D) (pS D G0) (pL D G0) (fE D (gD D) (cD D) (D.2 5) G0) := cons_sq R.1 _ (Nat.le_refl _)
  have lf := (lf_bd R hp).1
  have z : ∀ i j : Nat, dp D ≤ i ∨ dp D ≤ j → rl D i j = 0 := fun i j h => rl_out V V.fok K R h
  have ho := K.2.2 p (by omega) (by omega)
  rcases Int.lt_trichotomy (D.2 7 (p : Int)) 0 with h | h | h
  · have e : s2 (hTo D (p : Int)) 12 = sN (fun j => rl D p j) 12 := by
      unfold s2
      rw [sN_congr (h := fun i => if i = p then sN (fun j => rl D p j) 12 else 0) (fun i _ => by
        by_cases q : i = p
        · subst q
          rw [if_pos rfl]
          exact sN_congr (fun j _ => by unfold hTo; rw [if_pos (Or.inl rfl)])
        · rw [if_neg q, sN_congr (h := fun _ => 0) (fun j _ => by
            unfold hTo
            by_cases q2 : (j : Int) = p
            · have : j = p := by omega
              subst this
              rw [if_pos (Or.inr rfl)]
              exact rl_sgn V K R i j (Or.inr (by omega))
            · rw [if_neg (fun w => w.elim (fun w => q (by omega)) q2)]), sN_zero]), sN_one (by omega)]
    have c := C.1 p hp (by show (if G0 (p : Int) = true then 0 else sgn (D.2 7 (p : Int))) < 0; rw [if_neg (fun z : (false : Bool) = true => absurd z (by decide))]; exact sgnN.mpr h)
    rw [pL_opn] at c
    rw [e, sN_cut (n := dp D) (m := 12) vz.2.1 (fun k hk => z p k (Or.inr hk))]
    show sN (fun j => (fE D (gD D) (cD D) (D.2 5) G0).1 p j) (dp D) ≤ _
    omega
  · have e : s2 (hTo D (p : Int)) 12 = 0 := by
      unfold s2
      rw [sN_congr (h := fun _ => 0) (fun i _ => by
        rw [sN_congr (h := fun _ => 0) (fun j _ => by
          unfold hTo
          by_cases q : (i : Int) = p ∨ (j : Int) = p
          · rw [if_pos q]
            rcases q with q | q
            · exact rl_sgn V K R i j (Or.inl (by rw [q]; omega))
            · exact rl_sgn V K R i j (Or.inr (by rw [q]; omega))
          · rw [if_neg q]), sN_zero]), sN_zero]
    omega
  · have e : s2 (hTo D (p : Int)) 12 = sN (fun i => rl D i p) 12 := by
      unfold s2
      refine sN_congr (fun i _ => ?_)
      rw [sN_congr (h := fun j => if j = p then rl D i p else 0) (fun j _ => by
        unfold hTo
        by_cases q : j = p
        · subst q
          rw [if_pos (Or.inr rfl), if_pos rfl]
        · rw [if_neg q]
          by_cases q2 : (i : Int) = p
          · rw [if_pos (Or.inl q2)]
            exact rl_sgn V K R i j (Or.inl (by rw [q2]; omega))
          · rw [if_neg (fun w => w.elim q2 (fun w => q (by omega)))]), sN_one (by omega)]
    have c := C.2 p hp (by show 0 < (if G0 (p : Int) = true then 0 else sgn (D.2 7 (p : Int))); rw [if_neg (fun z : (false : Bool) = true => absurd z (by decide))]; exact sgnP.mpr h)
    rw [pL_opn] at c
    rw [e, sN_cut (n := dp D) (m := 12) vz.2.1 (fun k hk => z k p (Or.inl hk))]
    show sN (fun i => (fE D (gD D) (cD D) (D.2 5) G0).1 i p) (dp D) ≤ _
    omega
theorem caE_ok (V : Val D) (K : GdD D) (R : RD D) : ∀ k : Nat, k ≤ 144 → Sm D (caE D k) ∧ Val (caE D k) ∧ dc D ≤ dc (caE D k) ∧ (dc (caE D k) = dc D → caE D k = D) ∧ (∀ x : Nat, x < dc (caE D k) → lnk D (cD D) (D.2 5) ((caE D k).2 12 x) ((caE D k).2 13 x) = true) ∧ (∀ x : Int, 0 ≤ x → x < dc D → (caE D k).2 12 x = D.2 12 x ∧ (caE D k).2 13 x = D.2 13 x ∧ (caE D k).2 14 x = D.2 14 x) ∧ (∀ p : Int, takOf (caE D k) p ≤ takOf D p + sN (fun q => hTo D p (q / 12) (q % 12)) k) ∧ ∀ i j : Nat, i < 12 → j < 12 → takOn (caE D k) i j ≤ takOn D i j + (if 12 * i + j < k then rl D i j else 0) := by
  intro k
  induction k with
  | zero => intro _; exact ⟨Sm.rf, V, Nat.le_refl _, fun _ => rfl, fun x hx => K.1 x hx, fun x _ _ => ⟨rfl, rfl, rfl⟩, fun p => by show takOf D p ≤ takOf D p + 0; omega, fun i j _ _ => by rw [if_neg (by omega)]; show takOn D i j ≤ takOn D i j + 0; omega⟩
  | succ k ih =>
    intro hk
    obtain ⟨i1, i2, i3, i4, i5, i6, i7, i8⟩ := ih (by omega)
    have vz := V.sz
    have rb : (0 ≤ rl D (k / 12) (k % 12) ∧ rl D (k / 12) (k % 12) ≤ 99999) ∧ (0 < rl D (k / 12) (k % 12) → lnk D (cD D) (D.2 5) ((k / 12 : Nat) : Int) ((k % 12 : Nat) : Int) = true) := rl_bd V V.fok K R (k / 12) (k % 12)
    rw [caE_s]
    by_cases q : rl D (k / 12) (k % 12) ≤ 0 ∨ 30 ≤ dc (caE D k)
    · rw [if_pos q]
      refine ⟨i1, i2, i3, i4, i5, i6, fun p => ?_, fun i j hi hj => ?_⟩
      · have := i7 p
        have := hTo_bd V K R p (k / 12) (k % 12)
        show _ ≤ takOf D p + (sN (fun q => hTo D p (q / 12) (q % 12)) k + hTo D p (k / 12) (k % 12))
        omega
      · have := i8 i j hi hj
        have r0 : (0 ≤ rl D i j ∧ rl D i j ≤ 99999) := (rl_bd V V.fok K R i j).1
        by_cases w : 12 * i + j < k
        · rw [if_pos w] at this; rw [if_pos (by omega)]; exact this
        · rw [if_neg w] at this
          split <;> omega
    · rw [if_neg q]
      have r1 : 0 < rl D (k / 12) (k % 12) := by
        rcases Int.lt_or_le 0 (rl D (k / 12) (k % 12)) with w | w
        · exact w
        · exact absurd (Or.inl w) q
      have lk := rb.2 r1
      have lq := lnk_iff.mp lk
      have pe : dp (caE D k) = dp D := i1.1.2.1
      refine ⟨i1.tr (addC_sm _ _ _ _), addC_val i2 (by omega) ⟨lq.1, by rw [pe]; exact lq.2.1⟩ ⟨lq.2.2.1, by rw [pe]; exact lq.2.2.2.1⟩ (by omega) rb.1.2, by show dc D ≤ dc (caE D k) + 1; omega, fun z => by have z : dc (caE D k) + 1 = dc D := z; omega, fun x hx => ?_, fun x x0 x1 => ?_, fun p => ?_, fun i j hi hj => ?_⟩
      · have hx : x < dc (caE D k) + 1 := hx
        by_cases e : x = dc (caE D k)
        · subst e; rw [addC_12.1, addC_12.2.1]; exact lk
        · rw [addC_old (by omega), addC_old (by omega)]; exact i5 x (by omega)
      · rw [addC_old (by omega), addC_old (by omega), addC_old (by omega)]; exact i6 x x0 x1
      · rw [takOf_add]
        have := i7 p
        show _ ≤ takOf D p + (sN (fun q => hTo D p (q / 12) (q % 12)) k + (if ((k / 12 : Nat) : Int) = p ∨ ((k % 12 : Nat) : Int) = p then rl D (k / 12) (k % 12) else 0))
        omega
      · rw [takOn_add]
        have := i8 i j hi hj
        by_cases w : ((k / 12 : Nat) : Int) = (i : Int) ∧ ((k % 12 : Nat) : Int) = (j : Int)
        · have w1 : k / 12 = i := by omega
          have w2 : k % 12 = j := by omega
          rw [if_pos w, if_pos (by omega), w1, w2]
          rw [if_neg (by omega)] at this
          omega
        · rw [if_neg w]
          have r0 : (0 ≤ rl D i j ∧ rl D i j ≤ 99999) := (rl_bd V V.fok K R i j).1
          by_cases y : 12 * i + j < k
          · rw [if_pos y] at this; rw [if_pos (by omega)]; omega
          · rw [if_neg y] at this
            split <;> omega
theorem caE_gd (V : Val D) (K : GdD D) (R : RD D) : GdD (caE D 144) := by
  obtain ⟨i1, i2, i3, i4, i5, i6, i7, i8⟩ := caE_ok V K R 144 (Nat.le_refl _)
  have vz := V.sz
  show Gd (caE D 144) (gD (caE D 144)) (cD (caE D 144)) ((caE D 144).2 5)
  rw [i1.g.1, i1.g.2.1, i1.g.2.2]
  refine ⟨fun k hk => by rw [i1.sim.lnk']; exact i5 k hk, fun x y h => ?_, fun p p0 p1 => ?_⟩
  · rw [i1.sim.lnk'] at h
    rw [i1.sim.bnd']
    have lq := lnk_iff.mp h
    obtain ⟨i, rfl⟩ : ∃ i : Nat, x = i := ⟨x.toNat, by omega⟩
    obtain ⟨j, rfl⟩ : ∃ j : Nat, y = j := ⟨y.toNat, by omega⟩
    have a := i8 i j (by omega) (by omega)
    have s : (fE D (gD D) (cD D) (D.2 5) G0).1 i j ≤ pC D (gD D) (cD D) (D.2 5) G0 i j := ((R.1.1 _ (Nat.le_refl _)).1 i j).2
    have s : rl D i j ≤ pC D (gD D) (cD D) (D.2 5) G0 i j := s
    unfold pC at s
    rw [if_pos ⟨h, rfl, rfl⟩] at s
    have r0 : (0 ≤ rl D i j ∧ rl D i j ≤ 99999) := (rl_bd V V.fok K R i j).1
    rw [if_pos (by omega)] at a
    omega
  · rw [i1.1.2.1] at p1
    obtain ⟨q, rfl⟩ : ∃ q : Nat, p = q := ⟨p.toNat, by omega⟩
    have a := i7 q
    rw [s1_s2] at a
    have c := hTo_le V K R (p := q) (by omega)
    unfold opn at c ⊢
    rw [i1.2 7 (by decide)]
    omega
theorem caE_full {k : Nat} (h : 30 ≤ dc (caE D k)) : ∀ m, caE D (k + m) = caE D k := by
  intro m
  induction m with
  | zero => rfl
  | succ m ih =>
    rw [show k + (m + 1) = (k + m) + 1 from rfl, caE_s, if_pos (Or.inr (by rw [ih]; exact h)), ih]
theorem caE_skip {k : Nat} : ∀ {m : Nat}, (∀ j, k ≤ j → j < k + m → rl D (j / 12) (j % 12) ≤ 0) → caE D (k + m) = caE D k := by
  intro m
  induction m with
  | zero => intro _; rfl
  | succ m ih =>
    intro h
    rw [show k + (m + 1) = (k + m) + 1 from rfl, caE_s, if_pos (Or.inl (h (k + m) (by omega) (by omega))), ih (fun j h1 h2 => h j h1 (by omega))]
noncomputable def rClaimAll (D : Dk) : Int := (dc (caE D 144) : Int) - dc D
theorem inv_all (V : Val D) (K : GdD D) (R : RD D) : InvR 0 (rClaimAll D) 0 0 0 (caE D 144) D := by
  obtain ⟨i1, i2, i3, i4, i5, i6, i7, i8⟩ := caE_ok V K R 144 (Nat.le_refl _)
  refine Or.inl ⟨rfl, ⟨by unfold rClaimAll; omega, i3, fun x x0 x1 => ?_⟩, ⟨i1.1.2.2.symm, fun x x0 x1 => ?_⟩, fun p _ _ => ?_⟩
  · have := i6 x x0 x1
    exact ⟨this.1.symm, this.2.1.symm, this.2.2.symm⟩
  · rw [i1.2 8 (by decide), i1.2 9 (by decide), i1.2 10 (by decide), i1.2 11 (by decide)]
    exact ⟨rfl, rfl, rfl, rfl⟩
  · rw [i1.2 7 (by decide)]
theorem x_claimAll (hN : BigN N) (V : Val D) (K : GdD D) (X : XC σ b D) {u : Nat} (hu : u ≤ 20) (h33 : σ.1 33 1 = u) : ∃ σ1, F_X11_claimAll N σ = some (rClaimAll D, σ1) ∧ RD D ∧ FX σ σ1 ∧ ((rClaimAll D = 0 ∧ caE D 144 = D ∧ XC σ1 b D ∧ RO σ σ1) ∨ (0 < rClaimAll D ∧ XC σ1 b (caE D 144) ∧ PshX σ σ1 0 (rClaimAll D) 0 0 0)) := by
  have vz := V.sz
  have hb := X.lt
  have hb3 := X.ge
  have hbb : b + 12 ≤ 28 := by rcases X.1 with h | h <;> omega
  obtain ⟨σ2, b1, b2, b3, b4, b5, -⟩ := k_refreshFlow hN V K X
  have R := b5.ends
  have e9 : σ2.1 b 9 = dp D := b2.2.2.1.1.2.1
  have ok := fun k hk => caE_ok V K R k hk
  let I : Nat → Sto → Prop := fun k τ => LedR τ 29 (caE D k) ∧ (∀ y z, ¬ (29 ≤ y ∧ y ≤ 32) → τ.1 y z = σ2.1 y z) ∧ τ.2 = σ2.2 ∧ (dc (caE D k) = dc D → τ = σ2)
  have bat : ∀ τ : Sto, (∀ y z, ¬ (29 ≤ y ∧ y ≤ 32) → τ.1 y z = σ2.1 y z) → ∀ {α : Type} {f : Nat → Option α}, asB (τ.1 0 1) f = f b := fun τ h α f => by rw [h _ _ (by omega), b2.2.1]; exact asB_in b2.1
  have inner : ∀ (i : Nat) (τ : Sto), i < dp D → I (12 * i) τ → ∃ τ', I (12 * (i + 1)) τ' ∧ ∀ nx8, loopK (fun q nx21 => F_X11_claimAll_B21 N nx8 nx21 (i : Int) q.1 q.2.1 q.2.2) N ((dc (caE D (12 * i)) : Int) - dc D, 0, τ) = nx8 ((dc (caE D (12 * (i + 1))) : Int) - dc D, (i : Int) + 1, τ') := fun i τ hi hI => by
    obtain ⟨s, ⟨s1, s2, s3⟩, s4⟩ := loop_X (X := (Int × Int × Sto) → Option (Int × Sto)) (b := fun z q nx21 => F_X11_claimAll_B21 N z nx21 (i : Int) q.1 q.2.1 q.2.2) (fin := fun z q => z (q.1, (i : Int) + 1, q.2.2)) (N := N) (s0 := ((dc (caE D (12 * i)) : Int) - dc D, (0 : Int), τ)) (fun j q => q.1 = (dc (caE D (12 * i + j)) : Int) - dc D ∧ q.2.1 = j ∧ I (12 * i + j) q.2.2) (dp D) (bigN hN) ⟨rfl, rfl, hI⟩ (fun j q hj hq => by
      obtain ⟨v1, v3, ρ⟩ := q
      obtain ⟨q1, q2, q3⟩ := hq
      have q1 : v1 = (dc (caE D (12 * i + j)) : Int) - dc D := q1
      have q2 : v3 = j := q2
      have q3 : I (12 * i + j) ρ := q3
      subst q2
      obtain ⟨i1, i2, i3, i4, i5, i6, i7, i8⟩ := ok (12 * i + j) (by omega)
      have iz := i2.sz
      have ix : ja (jm (i : Int) 12) (j : Int) = 12 * i + j := ix12 (by omega) (by omega) (by omega) (by omega)
      have e5 : ρ.1 63 (12 * (i : Int) + j) = rl D i j := (q3.2.1 _ _ (by omega)).trans (b5.2.1.2.2.2 i j (by omega) (by omega))
      have f9 : ρ.1 b 9 = dp D := (q3.2.1 _ _ (by omega)).trans e9
      have es := caE_s (D := D) (12 * i + j)
      rw [show (12 * i + j) / 12 = i by omega, show (12 * i + j) % 12 = j by omega] at es
      by_cases w : rl D i j ≤ 0 ∨ 30 ≤ dc (caE D (12 * i + j))
      · rw [if_pos w] at es
        refine ⟨(v1, (j : Int) + 1, ρ), ⟨by show v1 = (dc (caE D (12 * i + j + 1)) : Int) - dc D; rw [es]; exact q1, by show (j : Int) + 1 = ((j + 1 : Nat) : Int); omega, by show I (12 * i + j + 1) ρ; show LedR ρ 29 (caE D (12 * i + j + 1)) ∧ _ ∧ _ ∧ (dc (caE D (12 * i + j + 1)) = dc D → ρ = σ2); rw [es]; exact q3⟩, fun z nx => ?_⟩
        show F_X11_claimAll_B21 N z nx i v1 j ρ = _
        unfold F_X11_claimAll_B21 F_X11_claimAll_J86
        rw [bat ρ q3.2.1, f9, if_neg (by omega), ix, inb_in (by omega), e5, q3.1.1, ja_1 (by omega) (by omega)]
        by_cases w1 : rl D i j ≤ 0
        · rw [if_pos w1]
        · rw [if_neg w1, if_pos (by have := w.resolve_left w1; omega)]
      · rw [if_neg w] at es
        have w1 : ¬ rl D i j ≤ 0 := fun h => w (Or.inl h)
        have w2 : dc (caE D (12 * i + j)) < 30 := by
          rcases Nat.lt_or_ge (dc (caE D (12 * i + j))) 30 with y | y
          · exact y
          · exact absurd (Or.inr y) w
        obtain ⟨ρ', d1, d2, d3, d4⟩ := k_insEnd (N := N) (i := (i : Int)) (j := (j : Int)) (n := rl D i j) hN q3.1 w2
        refine ⟨(v1 + 1, (j : Int) + 1, ρ'), ⟨?_, by show (j : Int) + 1 = ((j + 1 : Nat) : Int); omega, ?_⟩, fun z nx => ?_⟩
        · show v1 + 1 = (dc (caE D (12 * i + j + 1)) : Int) - dc D
          rw [es, addC_dc]; omega
        · show LedR ρ' 29 (caE D (12 * i + j + 1)) ∧ _ ∧ _ ∧ (dc (caE D (12 * i + j + 1)) = dc D → ρ' = σ2)
          rw [es]
          exact ⟨d2, fun y z h => (d3 y z (by omega)).trans (q3.2.1 y z h), d4.trans q3.2.2.1, fun h => by rw [addC_dc] at h; omega⟩
        · show F_X11_claimAll_B21 N z nx i v1 j ρ = _
          unfold F_X11_claimAll_B21 F_X11_claimAll_J86
          rw [bat ρ q3.2.1, f9, if_neg (by omega), ix, inb_in (by omega), e5, if_neg w1, q3.1.1, if_neg (by omega), d1, Option.bind_some, ja_1 (k := (j : Int)) (by omega) (by omega), ja_1 (k := v1) (by omega) (by omega)]) (fun q hq z nx => by
      obtain ⟨v1, v3, ρ⟩ := q
      have q2 : v3 = (dp D : Int) := hq.2.1
      have q3 : I (12 * i + dp D) ρ := hq.2.2
      have f9 : ρ.1 b 9 = dp D := (q3.2.1 _ _ (by omega)).trans e9
      show F_X11_claimAll_B21 N z nx i v1 v3 ρ = z (v1, (i : Int) + 1, ρ)
      unfold F_X11_claimAll_B21 F_X11_claimAll_J92
      rw [bat ρ q3.2.1, f9, q2, if_pos (Int.le_refl _), ja_1 (by omega) (by omega)])
    have sk : caE D (12 * (i + 1)) = caE D (12 * i + dp D) := by
      rw [show 12 * (i + 1) = (12 * i + dp D) + (12 - dp D) by omega]
      exact caE_skip (fun j h1 h2 => Int.le_of_eq (rl_out V V.fok K R (i := j / 12) (j := j % 12) (Or.inr (by omega))))
    refine ⟨s.2.2, ?_, fun nx8 => ?_⟩
    · show LedR s.2.2 29 (caE D (12 * (i + 1))) ∧ _ ∧ _ ∧ (dc (caE D (12 * (i + 1))) = dc D → s.2.2 = σ2)
      rw [sk]; exact s3
    · rw [s4 nx8, sk, s1]
  obtain ⟨s, ⟨s1, s2, s3⟩, s4⟩ := loop_A (b := fun q nx8 => F_X11_claimAll_B8 N nx8 q.1 q.2.1 q.2.2) (fin := fun q => F_X11_claimAll_J98 N q.1 q.2.2) (N := N) (s0 := ((0 : Int), (0 : Int), σ2)) (fun i q => q.1 = (dc (caE D (12 * i)) : Int) - dc D ∧ q.2.1 = i ∧ I (12 * i) q.2.2) (dp D) (bigN hN) ⟨by show (0 : Int) = (dc D : Int) - dc D; omega, rfl, b2.2.2.2.1, fun _ _ _ => rfl, rfl, fun _ => rfl⟩ (fun i q hi hq => by
    obtain ⟨v1, v2, ρ⟩ := q
    obtain ⟨q1, q2, q3⟩ := hq
    have q1 : v1 = (dc (caE D (12 * i)) : Int) - dc D := q1
    have q2 : v2 = i := q2
    have q3 : I (12 * i) ρ := q3
    subst q1; subst q2
    obtain ⟨τ', t1, t2⟩ := inner i ρ hi q3
    have f9 : ρ.1 b 9 = dp D := (q3.2.1 _ _ (by omega)).trans e9
    refine ⟨((dc (caE D (12 * (i + 1))) : Int) - dc D, (i : Int) + 1, τ'), ⟨rfl, by show (i : Int) + 1 = ((i + 1 : Nat) : Int); omega, t1⟩, fun nx => ?_⟩
    show F_X11_claimAll_B8 N nx ((dc (caE D (12 * i)) : Int) - dc D) i ρ = _
    unfold F_X11_claimAll_B8
    rw [bat ρ q3.2.1, f9, if_neg (by omega)]
    exact t2 nx) (fun q hq nx => by
    obtain ⟨v1, v2, ρ⟩ := q
    have q2 : v2 = (dp D : Int) := hq.2.1
    have q3 : I (12 * dp D) ρ := hq.2.2
    have f9 : ρ.1 b 9 = dp D := (q3.2.1 _ _ (by omega)).trans e9
    show F_X11_claimAll_B8 N nx v1 v2 ρ = F_X11_claimAll_J98 N v1 ρ
    unfold F_X11_claimAll_B8
    rw [bat ρ q3.2.1, f9, q2, if_pos (Int.le_refl _)])
  have sk : caE D 144 = caE D (12 * dp D) := by
    have := caE_skip (D := D) (k := 12 * dp D) (m := 144 - 12 * dp D) (fun j h1 h2 => Int.le_of_eq (rl_out V V.fok K R (i := j / 12) (j := j % 12) (Or.inl (by omega))))
    rw [show 12 * dp D + (144 - 12 * dp D) = 144 by omega] at this
    exact this
  rw [← sk] at s1
  have s1 : s.1 = rClaimAll D := s1
  have s3 : LedR s.2.2 29 (caE D 144) ∧ (∀ y z, ¬ (29 ≤ y ∧ y ≤ 32) → s.2.2.1 y z = σ2.1 y z) ∧ s.2.2.2 = σ2.2 ∧ (dc (caE D 144) = dc D → s.2.2 = σ2) := by rw [sk]; exact s3
  obtain ⟨i1, i2, i3, i4, i5, i6, i7, i8⟩ := ok 144 (Nat.le_refl _)
  have run : F_X11_claimAll N σ = F_X11_claimAll_J98 N (rClaimAll D) s.2.2 := by
    unfold F_X11_claimAll
    rw [b1, Option.bind_some, s4]
    show F_X11_claimAll_J98 N s.1 s.2.2 = _
    rw [s1]
  rw [run]
  unfold F_X11_claimAll_J98
  by_cases q : rClaimAll D ≤ 0
  · have e : dc (caE D 144) = dc D := by unfold rClaimAll at q; omega
    have e0 : rClaimAll D = 0 := by unfold rClaimAll; omega
    rw [if_pos q]
    refine ⟨s.2.2, rfl, R, ?_, Or.inl ⟨e0, i4 e, ?_, ?_⟩⟩
    · rw [s3.2.2.2 e]; exact FX.ro b3
    · rw [s3.2.2.2 e]; exact b2
    · rw [s3.2.2.2 e]; exact b3
  · rw [if_neg q]
    have h33' : s.2.2.1 33 1 = u := by rw [s3.2.1 _ _ (by omega), b3 _ _ (by omega)]; exact h33
    obtain ⟨σ3, p1, p2, p3, p4⟩ := k_push hN hu h33' 0 (rClaimAll D) 0 0 0
    have fr : ∀ y z, ¬ (29 ≤ y ∧ y ≤ 34) → ¬ (y = 0 ∧ z = 17) → (upI σ3 0 17 0).1 y z = σ2.1 y z := fun y z q1 q2 => by rw [upI_ne q2, p3 y z (by omega) (by omega), s3.2.1 y z (by omega)]
    rw [p1, Option.bind_some]
    refine ⟨_, rfl, R, fun y z q => ?_, Or.inr ⟨by omega, ?_, ?_⟩⟩
    · rw [fr y z (by omega) (by omega)]; exact b3 y z (by omega)
    · exact b2.mut i1 (s3.1.cg (fun y z q1 q2 => by rw [up_pl (by omega), p3 y z (by omega) (by omega)])) (fun y z q => fr y z (by omega) (by omega)) (fun z => by show σ3.2 49 z = _; rw [p4, s3.2.2.1]) up_same
    · exact p2.cg (fun y z q => by rw [s3.2.1 y z (by omega), b3 y z (by omega)]) (fun y z q => up_pl (by omega))
theorem m_claimAll (hN : BigN N) (V : Val D) (K : GdD D) (R : RD D) (M : MK σ D) {u : Nat} (hu : u ≤ 20) (h25 : σ.1 94 25 = u) : ∃ σ1, F_X12_claimAll N σ = some (rClaimAll D, σ1) ∧ FM σ σ1 ∧ ((rClaimAll D = 0 ∧ MK σ1 D ∧ MO σ σ1) ∨ (0 < rClaimAll D ∧ MK σ1 (caE D 144) ∧ PshM σ σ1)) := by
  have vz := V.sz
  obtain ⟨M', m'⟩ := M.up2 V 0
  obtain ⟨σ1, a1, a2, a3, a4, a5⟩ := m_solves hN V K M' R
  have mo := m'.tr a3
  have ok := fun k hk => caE_ok V K R k hk
  have u25 : σ1.1 94 25 = u := (mo.1 _ _ (by omega)).trans h25
  let I : Nat → Sto → Prop := fun k τ => BkM τ 0 (caE D k) ∧ (∀ y z, ¬ (y = 101 ∧ (z < 200 ∨ 600 ≤ z)) → ¬ (y = 94 ∧ z = 25) → τ.1 y z = σ1.1 y z) ∧ τ.2 = σ1.2 ∧ (dc (caE D k) = dc D → τ = σ1) ∧ (dc D < dc (caE D k) → PshM σ1 τ)
  have one : ∀ (k : Nat) (τ : Sto), k < 144 → I k τ → 0 < rl D (k / 12) (k % 12) → dc (caE D k) < 30 → ∃ τ', I (k + 1) τ' ∧ ∀ nx, (if (dc (caE D k) : Int) - dc D = 0 then ((F_X12_canUndo N τ).bind (fun q10 => F_X12_claimAll_J51 N nx ((dc (caE D k) : Int) - dc D) k q10)) else (F_X12_claimAll_J51 N nx ((dc (caE D k) : Int) - dc D) k τ)) = nx ((dc (caE D (k + 1)) : Int) - dc D, (k : Int) + 1, τ') := fun k τ hk hI hr hc => by
    obtain ⟨i1, i2, i3, i4, i5, i6, i7, i8⟩ := ok k (by omega)
    have iz := i2.sz
    have es : caE D (k + 1) = addC (caE D k) ((k / 12 : Nat) : Int) ((k % 12 : Nat) : Int) (rl D (k / 12) (k % 12)) := by rw [caE_s, if_neg (by omega)]
    -- the store with its bank kept
    have kp : ∃ τ1, BkM τ1 0 (caE D k) ∧ (∀ y z, ¬ (y = 101 ∧ (z < 200 ∨ 600 ≤ z)) → ¬ (y = 94 ∧ z = 25) → τ1.1 y z = σ1.1 y z) ∧ τ1.2 = σ1.2 ∧ PshM σ1 τ1 ∧ ∀ nx, (if (dc (caE D k) : Int) - dc D = 0 then ((F_X12_canUndo N τ).bind (fun q10 => F_X12_claimAll_J51 N nx ((dc (caE D k) : Int) - dc D) k q10)) else (F_X12_claimAll_J51 N nx ((dc (caE D k) : Int) - dc D) k τ)) = F_X12_claimAll_J51 N nx ((dc (caE D k) : Int) - dc D) k τ1 := by
      by_cases e : dc (caE D k) = dc D
      · have et := hI.2.2.2.1 e
        subst et
        obtain ⟨τ1, t1, t2, t3, t4⟩ := m_canUndo (N := N) hN hu u25
        refine ⟨τ1, hI.1.cg (fun z _ _ => t3 _ _ (by omega) (by omega)) i2, fun y z q1 q2 => t3 y z (by omega) q2, t4, t2, fun nx => ?_⟩
        rw [if_pos (by omega), t1, Option.bind_some]
      · exact ⟨τ, hI.1, hI.2.1, hI.2.2.1, hI.2.2.2.2 (by omega), fun nx => by rw [if_neg (by omega)]⟩
    obtain ⟨τ1, k1, k2, k3, k4, k5⟩ := kp
    have g24 : τ1.1 94 24 = 0 := (k2 _ _ (by omega) (by omega)).trans a2.2.1
    obtain ⟨τ2, d1, d2, d3, d4⟩ := m_claims (N := N) (σ := τ1) i2 (Or.inl rfl) g24 k1 hc ((k / 12 : Nat) : Int) ((k % 12 : Nat) : Int) (rl D (k / 12) (k % 12))
    have e := a4.2.2 (k / 12) (k % 12) (by omega) (by omega)
    rw [k12] at e
    have e : τ1.1 107 (k : Int) = rl D (k / 12) (k % 12) := (k2 _ _ (by omega) (by omega)).trans e
    refine ⟨τ2, ?_, fun nx => ?_⟩
    · show BkM τ2 0 (caE D (k + 1)) ∧ _ ∧ _ ∧ (dc (caE D (k + 1)) = dc D → τ2 = σ1) ∧ (dc D < dc (caE D (k + 1)) → PshM σ1 τ2)
      rw [es]
      exact ⟨d2, fun y z q1 q2 => (d3 y z (by omega)).trans (k2 y z q1 q2), d4.trans k3, fun h => by rw [addC_dc] at h; omega, fun _ => k4.cg rfl (fun _ _ => rfl) (d3 _ _ (by omega)) (fun z hz => d3 _ _ (by omega))⟩
    · rw [k5 nx, es, addC_dc]
      unfold F_X12_claimAll_J51 F_X12_claimAll_J72
      rw [inb_in (by omega), e, (d12 hk).1, (d12 hk).2, d1, Option.bind_some, ja_1 (k := (k : Int)) (by omega) (by omega), ja_1 (by omega) (by omega), show ((dc (caE D k) + 1 : Nat) : Int) - dc D = (dc (caE D k) : Int) - dc D + 1 by omega]
  obtain ⟨r, r1, r2⟩ := loop_E (X := Unit) (R' := Sto) (b := fun _ q nx14 => F_X12_claimAll_B14 N nx14 q.1 q.2.1 q.2.2) (fin := fun _ r => some (rClaimAll D, r)) (N := N) (s0 := ((0 : Int), (0 : Int), σ1)) (fun k q => q.1 = (dc (caE D k) : Int) - dc D ∧ q.2.1 = k ∧ I k q.2.2) (fun r => I 144 r) 144 (bigN hN) ⟨by show (0 : Int) = (dc D : Int) - dc D; omega, rfl, a2.b0, fun _ _ _ _ => rfl, rfl, fun _ => rfl, fun h => absurd h (Nat.lt_irrefl _)⟩ (fun k q hk hq => by
    obtain ⟨v1, v2, τ⟩ := q
    obtain ⟨q1, q2, q3⟩ := hq
    have q1 : v1 = (dc (caE D k) : Int) - dc D := q1
    have q2 : v2 = k := q2
    have q3 : I k τ := q3
    subst q1; subst q2
    obtain ⟨i1, i2, i3, i4, i5, i6, i7, i8⟩ := ok k hk
    have iz := i2.sz
    have g24 : τ.1 94 24 = 0 := (q3.2.1 _ _ (by omega) (by omega)).trans a2.2.1
    have o0 : F_X12_of N 0 τ = some (dc (caE D k) : Int) := by
      have := q3.1.1.1
      rw [show (200 : Int) * 0 = 0 by omega] at this
      rw [m_ofr (Or.inl rfl) g24 (by omega) (by omega), show (200 : Int) * 0 + 0 = 0 by omega, this]
    by_cases e : k = 144
    · subst e
      refine Or.inr ⟨τ, q3, fun _ nx => ?_⟩
      show F_X12_claimAll_B14 N nx _ ((144 : Nat) : Int) τ = _
      unfold F_X12_claimAll_B14
      rw [if_pos (by omega)]
      rfl
    · by_cases h30 : 30 ≤ dc (caE D k)
      · have ef := caE_full h30 (144 - k)
        rw [show k + (144 - k) = 144 by omega] at ef
        refine Or.inr ⟨τ, by show BkM τ 0 (caE D 144) ∧ _ ∧ _ ∧ (dc (caE D 144) = dc D → τ = σ1) ∧ (dc D < dc (caE D 144) → PshM σ1 τ); rw [ef]; exact q3, fun _ nx => ?_⟩
        show F_X12_claimAll_B14 N nx _ k τ = _
        unfold F_X12_claimAll_B14 rClaimAll
        rw [if_neg (by omega), o0, Option.bind_some, if_pos (by omega), ef]
      · have e5 := a4.2.2 (k / 12) (k % 12) (by omega) (by omega)
        rw [k12] at e5
        have e5 : τ.1 107 (k : Int) = rl D (k / 12) (k % 12) := (q3.2.1 _ _ (by omega) (by omega)).trans e5
        have rb : 0 ≤ rl D (k / 12) (k % 12) := (rl_bd V V.fok K R (k / 12) (k % 12)).1.1
        by_cases z : rl D (k / 12) (k % 12) = 0
        · have es : caE D (k + 1) = caE D k := by rw [caE_s, if_pos (Or.inl (by omega))]
          refine Or.inl ⟨by omega, ((dc (caE D k) : Int) - dc D, (k : Int) + 1, τ), ⟨by rw [es], by show (k : Int) + 1 = ((k + 1 : Nat) : Int); omega, by show BkM τ 0 (caE D (k + 1)) ∧ _ ∧ _ ∧ (dc (caE D (k + 1)) = dc D → τ = σ1) ∧ (dc D < dc (caE D (k + 1)) → PshM σ1 τ); rw [es]; exact q3⟩, fun _ nx => ?_⟩
          show F_X12_claimAll_B14 N nx _ k τ = _
          unfold F_X12_claimAll_B14 F_X12_claimAll_J72
          rw [if_neg (by omega), o0, Option.bind_some, if_neg (by omega), inb_in (by omega), e5, if_pos z, ja_1 (by omega) (by omega)]
        · obtain ⟨τ', t1, t2⟩ := one k τ (by omega) q3 (by omega) (by omega)
          refine Or.inl ⟨by omega, ((dc (caE D (k + 1)) : Int) - dc D, (k : Int) + 1, τ'), ⟨rfl, by show (k : Int) + 1 = ((k + 1 : Nat) : Int); omega, t1⟩, fun _ nx => ?_⟩
          show F_X12_claimAll_B14 N nx _ k τ = _
          unfold F_X12_claimAll_B14
          rw [if_neg (by omega), o0, Option.bind_some, if_neg (by omega), inb_in (by omega), e5, if_neg z]
          exact t2 nx)
  have r1 : BkM r 0 (caE D 144) ∧ (∀ y z, ¬ (y = 101 ∧ (z < 200 ∨ 600 ≤ z)) → ¬ (y = 94 ∧ z = 25) → r.1 y z = σ1.1 y z) ∧ r.2 = σ1.2 ∧ (dc (caE D 144) = dc D → r = σ1) ∧ (dc D < dc (caE D 144) → PshM σ1 r) := r1
  obtain ⟨i1, i2, i3, i4, i5, i6, i7, i8⟩ := ok 144 (Nat.le_refl _)
  refine ⟨r, ?_, (FM.mo mo).tr ⟨fun y z q => r1.2.1 y z (by omega) (by omega), fun j => by rw [r1.2.2.1]⟩, ?_⟩
  · unfold F_X12_claimAll
    rw [a1, Option.bind_some]
    exact r2 ()
  · by_cases e : dc (caE D 144) = dc D
    · have er := r1.2.2.2.1 e
      subst er
      exact Or.inl ⟨by unfold rClaimAll; omega, a2, mo⟩
    · refine Or.inr ⟨by unfold rClaimAll; omega, ?_, ?_⟩
      · exact a2.mut i1.txm (by rw [i1.2 0 (by decide)]) r1.1 (fun y z q => r1.2.1 y z (by omega) (by omega))
      · exact (r1.2.2.2.2 (by omega)).cg (mo.1 _ _ (by omega)) (fun z hz => mo.1 _ _ (by omega)) rfl (fun _ _ => rfl)
end CAL
