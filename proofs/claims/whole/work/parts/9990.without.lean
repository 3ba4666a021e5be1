/-! WITHOUT a member -/
section MSG
variable {N : Nat} {σ : Sto} {E : Dk}
theorem m_solvesG (hN : BigN N) (V : Val E) (M : ModR σ E) {G : Int → Bool} (hG : ∀ p : Nat, p < dp E → G p = decide (E.2 4 p = σ.1 94 38)) (hc : ∀ k : Nat, k < dc E → G (E.2 12 k) = false ∧ G (E.2 13 k) = false) {sd : Nat → Int} {c pr : Nat → Nat → Int} {l : Nat → Int} {m : Nat} (Q : Prb E (dp E) sd c pr) (O : FOK (dp E) sd c pr) (R : REnd (dp E) sd c pr (fun _ _ => 0, l) m) (Z : Zr (dp E) sd (fun _ _ => 0, l)) (e1 : ∀ i : Nat, i < dp E → pL E G i = l i) (e2 : ∀ i j : Nat, i < dp E → j < dp E → pC E (gD E) (cD E) (E.2 5) G i j = c i j) : ∃ σ', F_X12_solves N σ = some (tt (dp E) sd c pr (fun _ _ => 0, l) m, σ') := by
  unfold F_X12_solves
  rw [inb_in (by omega), M.1.1.2.2.1]
  obtain ⟨σ1, a1, a2, a3⟩ := m_laysAll (G := G) (cl := 1) (D' := E) hN V M (gD E) hG (Or.inl ⟨rfl, rfl, hc⟩)
  have f1 := fr_X12_laysAll a1
  have M1 : ModR σ1 E := M.fr V (fun a j h => f1.1 a j (fun z => by unfold Wr_X12_laysAll at z; omega))
  rw [a1, Option.bind_some]
  obtain ⟨σ2, b1, -⟩ := m_relieves (σ := σ1) hN V M1 Q O R Z (fun i hi => (a2 i hi).trans (e1 i hi)) (fun i j hi hj => (a3 i j hi hj).trans (e2 i j hi hj))
  rw [b1, Option.bind_some]
  exact ⟨σ2, rfl⟩
end MSG
section WOT
variable {N : Nat} {σ : Sto} {b : Nat} {D : Dk}
abbrev gM' (D : Dk) (m : Int) : Int → Bool := fun p => decide (D.2 4 p = m)
noncomputable def rWithout (D : Dk) (m : Int) : Int := if isM D m then tE D (gD D) (cD D) (D.2 5) (gM' D m) else -1
abbrev RWo (D : Dk) (m : Int) : Prop := REn D (gD D) (cD D) (D.2 5) (gM' D m) (mE D (gD D) (cD D) (D.2 5) (gM' D m))
theorem x_without (hN : BigN N) (V : Val D) (K : GdD D) (X : XC σ b D) (m : Int) : QX σ b D (F_X11_without N m σ) (rWithout D m) ∧ RWo D m := by
  have vz := V.sz
  have hb := X.lt
  obtain ⟨σ1, a1, a2, a3, a4, a5, a6⟩ := k_refreshNet hN V X
  have hb2 := a2.lt
  obtain ⟨σ2, σ3, b1, b2, b3⟩ := k_solve (σ := σ1) (t := 83) (tn := 55) (l := 29) (w := bset (fun k => decide (D.2 4 k = m)) (dp D)) (G := gM' D m) hN V V.fok K hb (by omega) (by omega) (by omega) (by omega) (by omega) a2.2.2.1 a5.2 a2.2.2.2.1 (fun p hp => by rw [tb_bset (by omega) (by omega), decide_eq_true hp, Bool.true_and])
  refine ⟨?_, b3.ends⟩
  have f2 := fr_X1_load b1
  have f3 := fr_X1_run b2
  have e : ∀ a j, ¬ (83 ≤ a ∧ a ≤ 92) → σ3.1 a j = σ1.1 a j := fun a j h2 => (f3.1 a j (fun z => by unfold Wr_X1_run at z; omega)).trans (f2.1 a j (fun z => by unfold Wr_X1_load at z; omega))
  unfold F_X11_without rWithout
  rw [X.at, k_hasMember X.2.2.1, Option.bind_some]
  by_cases h : isM D m
  · rw [if_pos h, if_neg (by decide), if_pos h, a1, Option.bind_some, a2.at, a2.at, k_periodsOf hN V a2.2.2.1, Option.bind_some, b1, Option.bind_some, b2, Option.bind_some, b3.2.2.2.1]
    refine ⟨σ3, rfl, a2.cg (fun a j h => e a j (by omega)) (a2.2.2.2.2.1.cg (fun j => e _ _ (by omega)) (fun j => ?_)), a3.tr (fun a j h => e a j (by omega))⟩
    exact (f3.2 49 j (fun z => by unfold Wr_X1_run at z; omega)).trans (f2.2 49 j (fun z => by unfold Wr_X1_load at z; omega))
  · rw [if_neg h, if_pos rfl, if_neg h]; exact QX.same X rfl
/-- CLAIMS that do not touch a member's PERIODS -/
def wE (D : Dk) (m : Int) : Nat → Dk
  | 0 => dk0 D
  | k + 1 => if D.2 4 (D.2 12 k) = m ∨ D.2 4 (D.2 13 k) = m then wE D m k else addC (wE D m k) (D.2 12 k) (D.2 13 k) (D.2 14 k)
theorem wE_ok (V : Val D) (m : Int) : ∀ k : Nat, k ≤ dc D → Sm D (wE D m k) ∧ Val (wE D m k) ∧ dc (wE D m k) ≤ k ∧ (∀ x : Nat, x < dc (wE D m k) → gM' D m ((wE D m k).2 12 x) = false ∧ gM' D m ((wE D m k).2 13 x) = false) ∧ (∀ p, tkG (wE D m k) (gM' D m) p = sumTo (tkF D (gM' D m) p) k) ∧ ∀ x y, gM' D m x = false → gM' D m y = false → takOn (wE D m k) x y = sumTo (tonF D x y) k := by
  intro k
  induction k with
  | zero => intro _; exact ⟨⟨⟨rfl, rfl, rfl⟩, fun _ _ => rfl⟩, dk0_val V, Nat.le_refl _, fun x h => by have h : x < 0 := h; omega, fun _ => rfl, fun _ _ _ _ => rfl⟩
  | succ k ih =>
    intro hk
    obtain ⟨i1, i2, i3, i4, i5, i6⟩ := ih (by omega)
    have vz := V.sz
    have v := V.clm (k := k) (by omega) (by omega)
    have e : wE D m (k + 1) = if D.2 4 (D.2 12 k) = m ∨ D.2 4 (D.2 13 k) = m then wE D m k else addC (wE D m k) (D.2 12 k) (D.2 13 k) (D.2 14 k) := rfl
    rw [e]
    by_cases q : D.2 4 (D.2 12 k) = m ∨ D.2 4 (D.2 13 k) = m
    · rw [if_pos q]
      refine ⟨i1, i2, by omega, i4, fun p => ?_, fun x y hx hy => ?_⟩
      · show _ = sumTo (tkF D (gM' D m) p) k + tkF D (gM' D m) p k
        rw [i5 p]
        have : tkF D (gM' D m) p k = 0 := by
          unfold tkF
          rw [if_neg (fun z => by
            have z1 := of_decide_eq_false z.2.1
            have z2 := of_decide_eq_false z.2.2
            exact q.elim z1 z2)]
        rw [this, Int.add_zero]
      · show _ = sumTo (tonF D x y) k + tonF D x y k
        rw [i6 x y hx hy]
        have : tonF D x y k = 0 := by
          unfold tonF
          rw [if_neg (fun z => by
            have z1 := of_decide_eq_false hx
            have z2 := of_decide_eq_false hy
            rw [z.1, z.2] at q
            exact q.elim z1 z2)]
        rw [this, Int.add_zero]
    · rw [if_neg q]
      have g1 : gM' D m (D.2 12 k) = false := decide_eq_false (fun z => q (Or.inl z))
      have g2 : gM' D m (D.2 13 k) = false := decide_eq_false (fun z => q (Or.inr z))
      have pe : dp (wE D m k) = dp D := i1.1.2.1
      refine ⟨i1.tr (addC_sm _ _ _ _), addC_val i2 (by omega) ⟨v.1.1, by rw [pe]; exact v.1.2⟩ ⟨v.2.1.1, by rw [pe]; exact v.2.1.2⟩ v.2.2.1 v.2.2.2, by show dc (wE D m k) + 1 ≤ k + 1; omega, fun x hx => ?_, fun p => ?_, fun x y hx hy => ?_⟩
      · have hx : x < dc (wE D m k) + 1 := hx
        by_cases z : x = dc (wE D m k)
        · subst z; rw [addC_12.1, addC_12.2.1]; exact ⟨g1, g2⟩
        · rw [addC_old (by omega), addC_old (by omega)]; exact i4 x (by omega)
      · show sumTo (tkF (addC (wE D m k) (D.2 12 k) (D.2 13 k) (D.2 14 k)) (gM' D m) p) (dc (wE D m k)) + tkF (addC (wE D m k) (D.2 12 k) (D.2 13 k) (D.2 14 k)) (gM' D m) p (dc (wE D m k)) = sumTo (tkF D (gM' D m) p) k + tkF D (gM' D m) p k
        rw [← i5 p]
        congr 1
        · refine sumTo_congr (fun x hx => ?_)
          unfold tkF
          rw [addC_old (by omega), addC_old (by omega), addC_old (by omega)]
        · unfold tkF
          rw [addC_12.1, addC_12.2.1, addC_12.2.2]
      · rw [takOn_add, i6 x y hx hy]
        rfl
theorem wE_pL (V : Val D) (m : Int) (i : Nat) : pL (wE D m (dc D)) (gM' D m) i = pL D (gM' D m) i := by
  obtain ⟨i1, i2, i3, i4, i5, i6⟩ := wE_ok V m (dc D) (Nat.le_refl _)
  unfold pL
  rw [i1.2 7 (by decide), i5]
  rfl
theorem wE_pC (V : Val D) (m : Int) (i j : Nat) : pC (wE D m (dc D)) (gD D) (cD D) (D.2 5) (gM' D m) i j = pC D (gD D) (cD D) (D.2 5) (gM' D m) i j := by
  obtain ⟨i1, i2, i3, i4, i5, i6⟩ := wE_ok V m (dc D) (Nat.le_refl _)
  unfold pC
  rw [i1.sim.lnk', i1.sim.bnd']
  by_cases h : lnk D (cD D) (D.2 5) i j = true ∧ gM' D m i = false ∧ gM' D m j = false
  · rw [if_pos h, if_pos h, i6 _ _ h.2.1 h.2.2]; rfl
  · rw [if_neg h, if_neg h]
theorem m_without (hN : BigN N) (V : Val D) (K : GdD D) (M : MK σ D) (m : Int) (R : RWo D m) : QM σ D (F_X12_without N m σ) (rWithout D m) := by
  have vz := V.sz
  obtain ⟨M', m'⟩ := M.up2 V 0
  unfold F_X12_without rWithout
  rw [m_isMember M'.1, Option.bind_some]
  by_cases h : isM D m
  · rw [if_pos h, if_neg (by decide), if_pos h]
    obtain ⟨σ1, c1, c2, c3, c4⟩ := m_copyBank (N := N) (σ := upI σ 94 2 0) hN (f := 0) (t := 1) (by decide) (by decide) (by decide)
    have c1 : F_X12_copyBank N 0 1 (upI σ 94 2 0) = some σ1 := c1
    have c3 : ∀ a z, ¬ (a = 101 ∧ 200 ≤ z ∧ z < 400) → σ1.1 a z = (upI σ 94 2 0).1 a z := fun a z q => c3 a z (by omega)
    have B0 : BkM (upI σ 94 2 0) 0 D := by
      obtain ⟨k0, hk, h2, h3⟩ := M'.1.2
      rw [M'.2.1] at h2
      rw [h2]; exact h3
    have B1 : BkM σ1 1 D := BkM.cp V B0 (fun k k0 k1 => by have := c2 k k0 k1; simpa using this)
    have B10 : BkM σ1 0 D := B0.cg (fun j j0 j1 => c3 _ _ (by omega)) V
    rw [c1, Option.bind_some]
    have memb : ∀ τ : Sto, (∀ a z, ¬ (a = 101 ∧ 201 ≤ z ∧ z ≤ 290) → ¬ (a = 94 ∧ z = 24) → τ.1 a z = σ1.1 a z) → ∀ p : Int, 0 ≤ p → p < dp D → F_X12_memberOf N p τ = some (D.2 4 p) := fun τ ht p p0 p1 => by
      have T := (M'.1.1.2.2 p p0 p1).1
      unfold F_X12_memberOf
      have e4 : jm 4 p = 4 * p := jm_eq ⟨by omega, by omega⟩
      rw [e4, inb_in (by omega), ht _ _ (by omega) (by omega), c3 _ _ (by omega), T]
    obtain ⟨s, ⟨h1, h2, h3, h4, h5⟩, h6⟩ := loop_A (b := fun q nx30 => F_X12_without_B30 N nx30 m q.1 q.2.1 q.2.2) (fin := fun s => F_X12_without_J128 N m s.1 s.2.2) (N := N) (s0 := ((0 : Int), (0 : Int), upI σ1 94 24 1)) (fun k s => s.1 = (dc (wE D m k) : Nat) ∧ s.2.1 = k ∧ (∀ a z, ¬ (a = 101 ∧ 201 ≤ z ∧ z ≤ 290) → s.2.2.1 a z = (upI σ1 94 24 1).1 a z) ∧ s.2.2.2 = σ.2 ∧ ∀ x : Nat, x < dc (wE D m k) → s.2.2.1 101 (201 + 3 * (x : Int)) = (wE D m k).2 12 x ∧ s.2.2.1 101 (201 + 3 * (x : Int) + 1) = (wE D m k).2 13 x ∧ s.2.2.1 101 (201 + 3 * (x : Int) + 2) = (wE D m k).2 14 x) (dc D) (bigN hN) ⟨rfl, rfl, fun _ _ _ => rfl, c4, fun x hx => by have hx : x < 0 := hx; omega⟩ (fun k s hk hI => by
      obtain ⟨v2, v3, τ⟩ := s
      obtain ⟨i1, i2, i3, i4, i5⟩ := hI
      have i1 : v2 = (dc (wE D m k) : Nat) := i1
      have i2 : v3 = k := i2
      subst i1; subst i2
      have i3 : ∀ a z, ¬ (a = 101 ∧ 201 ≤ z ∧ z ≤ 290) → τ.1 a z = (upI σ1 94 24 1).1 a z := i3
      obtain ⟨w1, w2, w3, w4, w5, w6⟩ := wE_ok V m k (by omega)
      have i3' : ∀ a z, ¬ (a = 101 ∧ 201 ≤ z ∧ z ≤ 290) → ¬ (a = 94 ∧ z = 24) → τ.1 a z = σ1.1 a z := fun a z p q => (i3 a z p).trans (upI_ne q)
      have v := V.clm (k := k) (by omega) (by omega)
      have e0 : τ.1 101 0 = (dc D : Int) := by
        rw [i3' _ _ (by omega) (by omega)]
        have := B10.1.1
        rw [show (200 : Int) * 0 = 0 by omega] at this
        exact this
      have ix : ja 1 (jm 3 (k : Int)) = 1 + 3 * k := by rw [jm_eq ⟨by omega, by omega⟩, ja_eq ⟨by omega, by omega⟩]
      have ix1 : ja (ja 1 (jm 3 (k : Int))) 1 = 1 + 3 * k + 1 := by rw [ix, ja_eq ⟨by omega, by omega⟩]
      have rd := B10.2.1 k (by omega) (by omega)
      rw [show (200 : Int) * 0 + (1 + 3 * (k : Int)) = 1 + 3 * k by omega, show (200 : Int) * 0 + (1 + 3 * (k : Int) + 1) = 1 + 3 * k + 1 by omega, show (200 : Int) * 0 + (1 + 3 * (k : Int) + 2) = 1 + 3 * k + 2 by omega] at rd
      have r1 : τ.1 101 (1 + 3 * (k : Int)) = D.2 12 k := (i3' _ _ (by omega) (by omega)).trans rd.1
      have r2 : τ.1 101 (1 + 3 * (k : Int) + 1) = D.2 13 k := (i3' _ _ (by omega) (by omega)).trans rd.2.1
      have r3 : τ.1 101 (1 + 3 * (k : Int) + 2) = D.2 14 k := (i3' _ _ (by omega) (by omega)).trans rd.2.2
      have ew : wE D m (k + 1) = if D.2 4 (D.2 12 k) = m ∨ D.2 4 (D.2 13 k) = m then wE D m k else addC (wE D m k) (D.2 12 k) (D.2 13 k) (D.2 14 k) := rfl
      by_cases q1 : D.2 4 (D.2 12 k) = m ∨ D.2 4 (D.2 13 k) = m
      · rw [if_pos q1] at ew
        refine ⟨((dc (wE D m k) : Nat), (k : Int) + 1, τ), ⟨by rw [ew], by show (k : Int) + 1 = ((k + 1 : Nat) : Int); omega, i3, i4, by rw [ew]; exact i5⟩, fun nx => ?_⟩
        show F_X12_without_B30 N nx m (dc (wE D m k) : Nat) k τ = _
        unfold F_X12_without_B30 F_X12_without_J122
        rw [inb_in (by omega), e0, if_neg (by omega), ix, inb_in (by omega), r1, memb τ i3' _ v.1.1 v.1.2, Option.bind_some, ja_1 (k := (k : Int)) (by omega) (by omega)]
        by_cases q2 : D.2 4 (D.2 12 k) = m
        · rw [if_pos q2]
        · rw [if_neg q2, ja_eq ⟨by omega, by omega⟩, inb_in (by omega), r2, memb τ i3' _ v.2.1.1 v.2.1.2, Option.bind_some, if_pos (q1.resolve_left q2)]
      · rw [if_neg q1] at ew
        have q2 : ¬ D.2 4 (D.2 12 k) = m := fun z => q1 (Or.inl z)
        have q3 : ¬ D.2 4 (D.2 13 k) = m := fun z => q1 (Or.inr z)
        generalize hq : dc (wE D m k) = q at *
        have h24 : τ.1 94 24 = 1 := (i3 _ _ (by omega)).trans up_same
        obtain ⟨t, ⟨t1, t2, t3, t4⟩, t5⟩ := loop_X (X := (Int × Int × Sto) → Option (Int × Sto)) (b := fun z r nx85 => F_X12_without_B85 N z nx85 m (q : Int) k (1 + 3 * (k : Int)) r.1 r.2) (fin := fun z s => z ((q : Int) + 1, (k : Int) + 1, s.2)) (N := N) (s0 := ((0 : Int), τ)) (fun w s => s.1 = w ∧ (∀ a z, ¬ (a = 101 ∧ 201 + 3 * (q : Int) ≤ z ∧ z < 201 + 3 * (q : Int) + w) → s.2.1 a z = τ.1 a z) ∧ (∀ y : Int, 0 ≤ y → y < w → s.2.1 101 (201 + 3 * (q : Int) + y) = τ.1 101 (1 + 3 * (k : Int) + y)) ∧ s.2.2 = τ.2) 3 (bigN hN) ⟨rfl, fun _ _ _ => rfl, fun y a c => by omega, rfl⟩ (fun w s hw hI => by
          obtain ⟨v5, ρ⟩ := s
          obtain ⟨j1, j2, j3, j4⟩ := hI
          have j1 : v5 = w := j1
          subst j1
          have g24 : ρ.1 94 24 = 1 := (j2 _ _ (by omega)).trans h24
          have y1 : ja (1 + 3 * (k : Int)) (w : Int) = 1 + 3 * k + w := ja_eq ⟨by omega, by omega⟩
          have y3 : ja 1 (jm 3 (q : Int)) = 1 + 3 * q := by rw [jm_eq ⟨by omega, by omega⟩, ja_eq ⟨by omega, by omega⟩]
          have y2 : ja (ja 1 (jm 3 (q : Int))) (w : Int) = 1 + 3 * q + w := by rw [y3, ja_eq ⟨by omega, by omega⟩]
          refine ⟨((w : Int) + 1, upI ρ 101 (200 * 1 + (1 + 3 * (q : Int) + w)) (ρ.1 101 (1 + 3 * (k : Int) + w))), ⟨by show (w : Int) + 1 = ((w + 1 : Nat) : Int); omega, fun a z p => ?_, fun y a c => ?_, j4⟩, fun z nx => ?_⟩
          · show (upI ρ 101 _ _).1 a z = _
            rw [upI_ne (by omega)]; exact j2 a z (by omega)
          · show (upI ρ 101 _ _).1 101 _ = _
            by_cases e : y = w
            · subst e
              rw [show (201 : Int) + 3 * (q : Int) + (w : Int) = 200 * 1 + (1 + 3 * (q : Int) + w) by omega, up_same]
              exact j2 _ _ (by omega)
            · rw [up_ix (by omega)]; exact j3 y a (by omega)
          · show F_X12_without_B85 N z nx m q k (1 + 3 * (k : Int)) w ρ = _
            unfold F_X12_without_B85
            rw [if_neg (by omega), y1, inb_in (by omega), y2, m_lay (Or.inr rfl) g24 (by omega) (by omega), Option.bind_some, ja_1 (by omega) (by omega)]) (fun s hI z nx => by
          obtain ⟨v5, ρ⟩ := s
          have j1 : v5 = ((3 : Nat) : Int) := hI.1
          show F_X12_without_B85 N z nx m q k (1 + 3 * (k : Int)) v5 ρ = z ((q : Int) + 1, (k : Int) + 1, ρ)
          unfold F_X12_without_B85 F_X12_without_J119 F_X12_without_J122
          rw [j1, if_pos (by omega), ja_1 (by omega) (by omega), ja_1 (by omega) (by omega)])
        have z0 := t3 0 (by omega) (by omega)
        have z1 := t3 1 (by omega) (by omega)
        have z2 := t3 2 (by omega) (by omega)
        rw [Int.add_zero, Int.add_zero, r1] at z0
        rw [r2] at z1
        rw [r3] at z2
        refine ⟨((q : Int) + 1, (k : Int) + 1, t.2), ⟨?_, by show (k : Int) + 1 = ((k + 1 : Nat) : Int); omega, fun a z p => (t2 a z (by omega)).trans (i3 a z p), t4.trans i4, fun x hx => ?_⟩, fun nx => ?_⟩
        · show (q : Int) + 1 = ((dc (wE D m (k + 1)) : Nat) : Int)
          rw [ew, addC_dc, hq]; omega
        · rw [ew] at hx ⊢
          have hx : x < dc (wE D m k) + 1 := hx
          by_cases e : x = dc (wE D m k)
          · subst e
            rw [addC_12.1, addC_12.2.1, addC_12.2.2, hq]
            exact ⟨z0, z1, z2⟩
          · rw [addC_old (by omega), addC_old (by omega), addC_old (by omega)]
            show t.2.1 101 _ = _ ∧ t.2.1 101 _ = _ ∧ t.2.1 101 _ = _
            rw [t2 _ _ (by omega), t2 _ _ (by omega), t2 _ _ (by omega)]
            exact i5 x (by omega)
        · show F_X12_without_B30 N nx m q k τ = _
          unfold F_X12_without_B30
          rw [inb_in (by omega), e0, if_neg (by omega), ix, inb_in (by omega), r1, memb τ i3' _ v.1.1 v.1.2, Option.bind_some, if_neg q2, ja_eq ⟨by omega, by omega⟩, inb_in (by omega), r2, memb τ i3' _ v.2.1.1 v.2.1.2, Option.bind_some, if_neg q3]
          exact t5 nx) (fun s hI nx => by
      obtain ⟨v2, v3, τ⟩ := s
      obtain ⟨i1, i2, i3, i4, i5⟩ := hI
      have i2 : v3 = (dc D : Int) := i2
      have i3 : ∀ a z, ¬ (a = 101 ∧ 201 ≤ z ∧ z ≤ 290) → τ.1 a z = (upI σ1 94 24 1).1 a z := i3
      have e0 : τ.1 101 0 = (dc D : Int) := by
        rw [i3 _ _ (by omega), upI_ne (by omega)]
        have := B10.1.1
        rw [show (200 : Int) * 0 = 0 by omega] at this
        exact this
      show F_X12_without_B30 N nx m v2 v3 τ = F_X12_without_J128 N m v2 τ
      unfold F_X12_without_B30
      rw [inb_in (by omega), e0, i2, if_pos (Int.le_refl _)])
    rw [h6]
    obtain ⟨w1, w2, w3, w4, w5, w6⟩ := wE_ok V m (dc D) (Nat.le_refl _)
    obtain ⟨v2, v3, τ⟩ := s
    have h1 : v2 = (dc (wE D m (dc D)) : Nat) := h1
    have h3 : ∀ a z, ¬ (a = 101 ∧ 201 ≤ z ∧ z ≤ 290) → τ.1 a z = (upI σ1 94 24 1).1 a z := h3
    have h4 : τ.2 = σ.2 := h4
    have h24 : τ.1 94 24 = 1 := (h3 _ _ (by omega)).trans up_same
    let ρ : Sto := upI (upI τ 101 (200 * 1 + 0) v2) 94 38 m
    have rf : ∀ a z, ¬ (a = 101 ∧ 200 ≤ z ∧ z < 400) → ¬ (a = 94 ∧ (z = 24 ∨ z = 38 ∨ z = 2)) → ρ.1 a z = σ.1 a z := fun a z p q => by
      show (upI (upI τ 101 (200 * 1 + 0) v2) 94 38 m).1 a z = _
      rw [upI_ne (by omega), upI_ne (by omega), h3 _ _ (by omega), upI_ne (by omega), c3 _ _ (by omega), upI_ne (by omega)]
    have r24 : ρ.1 94 24 = 1 := by
      show (upI (upI τ 101 (200 * 1 + 0) v2) 94 38 m).1 94 24 = 1
      rw [up_ix (by decide), up_pl (by decide)]; exact h24
    have r101 : ∀ z : Int, z ≠ 200 * 1 + 0 → ρ.1 101 z = τ.1 101 z := fun z hz => (up_pl (by decide)).trans (up_ix hz)
    have Mr : ModR ρ (wE D m (dc D)) := by
      refine ⟨w1.txm (M.1.1.cg (fun j hj => rf _ _ (by omega) (by omega)) (fun j => rf _ _ (by omega) (by omega)) (fun j => rf _ _ (by omega) (by omega)) (fun j _ => rf _ _ (by omega) (by omega))), 1, Or.inr rfl, r24, ⟨⟨?_, ?_⟩, fun k a c => ?_, fun p a c => ?_, fun k a c => ?_⟩⟩
      · show (upI (upI τ 101 (200 * 1 + 0) v2) 94 38 m).1 101 (200 * 1) = _
        rw [up_pl (by decide)]
        exact (up_same (σ := τ) (k := 101) (j := 200 * 1 + 0) (v := v2)).trans h1
      · show (upI (upI τ 101 (200 * 1 + 0) v2) 94 38 m).1 101 (200 * 1 + 103) = _
        rw [up_pl (by decide), up_ix (by omega), h3 _ _ (by omega), upI_ne (by omega), w1.1.2.2]; exact B1.1.2
      · obtain ⟨x, rfl⟩ : ∃ x : Nat, k = x := ⟨k.toNat, by omega⟩
        have := h5 x (by omega)
        rw [r101 _ (by omega), r101 _ (by omega), r101 _ (by omega), show (200 : Int) * 1 + (1 + 3 * (x : Int)) = 201 + 3 * (x : Int) by omega, show (200 : Int) * 1 + (1 + 3 * (x : Int) + 1) = 201 + 3 * (x : Int) + 1 by omega, show (200 : Int) * 1 + (1 + 3 * (x : Int) + 2) = 201 + 3 * (x : Int) + 2 by omega]
        exact this
      · have c : p < dp D := by rw [w1.1.2.1] at c; exact c
        show (upI (upI τ 101 (200 * 1 + 0) v2) 94 38 m).1 101 _ = _
        rw [up_pl (by decide), up_ix (by omega), h3 _ _ (by omega), upI_ne (by omega), w1.2 7 (by decide)]; exact B1.2.2.1 p a c
      · have c : k < dn D := by rw [w1.1.2.2] at c; exact c
        rw [r101 _ (by omega), r101 _ (by omega), r101 _ (by omega), r101 _ (by omega), h3 _ _ (by omega), h3 _ _ (by omega), h3 _ _ (by omega), h3 _ _ (by omega), upI_ne (by omega), upI_ne (by omega), upI_ne (by omega), upI_ne (by omega), w1.2 8 (by decide), w1.2 9 (by decide), w1.2 10 (by decide), w1.2 11 (by decide)]
        exact B1.2.2.2 k a c
    have r38 : ρ.1 94 38 = m := up_same
    obtain ⟨σ5, s1⟩ := m_solvesG (N := N) (σ := ρ) (E := wE D m (dc D)) (G := gM' D m) (sd := pS D (gM' D m)) (c := pC D (gD D) (cD D) (D.2 5) (gM' D m)) (pr := pP D (cD D) (D.2 5)) (l := pL D (gM' D m)) (m := mE D (gD D) (cD D) (D.2 5) (gM' D m)) hN w2 Mr (fun p hp => by rw [r38, w1.2 4 (by decide)]) w4 (by rw [w1.1.2.1]; exact Prb.sim w1.sim (p_prb V)) (by rw [w1.1.2.1]; exact p_fok V V.fok K) (by rw [w1.1.2.1]; exact R) (by rw [w1.1.2.1]; exact p_zr V K) (fun i _ => wE_pL V m i) (fun i j _ _ => by rw [w1.g.1, w1.g.2.1, w1.g.2.2]; exact wE_pC V m i j)
    rw [w1.1.2.1] at s1
    have f5 := fr_X12_solves s1
    have f5a : ∀ a z, ¬ (102 ≤ a ∧ a ≤ 110) → ¬ (a = 94 ∧ (z = 30 ∨ z = 37)) → σ5.1 a z = ρ.1 a z := fun a z p q => f5.1 a z (fun y => by unfold Wr_X12_solves at y; omega)
    have f5b : ∀ j, σ5.2 49 j = ρ.2 49 j := fun j => f5.2 49 j (fun y => by unfold Wr_X12_solves at y; omega)
    have ef : F_X12_without_J128 N m v2 τ = some (tE D (gD D) (cD D) (D.2 5) (gM' D m), upI (upI σ5 94 38 (-1)) 94 24 0) := by
      unfold F_X12_without_J128
      rw [m_lay (Or.inr rfl) h24 (by omega) (by omega), Option.bind_some]
      show (F_X12_solves N ρ).bind _ = _
      rw [s1, Option.bind_some]
      rfl
    refine QM.of V M ef ⟨fun a j q => ?_, fun j => ?_⟩
    · show (upI (upI σ5 94 38 (-1)) 94 24 0).1 a j = σ.1 a j
      by_cases z1 : a = 94 ∧ j = 24
      · obtain ⟨rfl, rfl⟩ := z1
        rw [up_same]; exact M.2.1.symm
      · by_cases z2 : a = 94 ∧ j = 38
        · obtain ⟨rfl, rfl⟩ := z2
          rw [up_ix (by decide), up_same]; exact M.2.2.1.symm
        · rw [upI_ne z1, upI_ne z2, f5a _ _ (by omega) (by omega), rf _ _ (by omega) (by omega)]
    · show σ5.2 49 j = _
      rw [f5b j]
      show τ.2 49 j = _
      rw [h4]
  · rw [if_neg h, if_pos rfl, if_neg h]; exact QM.same V M rfl
end WOT
