/-! WHAT A LINK'S room more, or less, is worth -/
def cX (D : Dk) (x y : Nat) (v : Int) : Nat → Nat → Int := fun i j => if i = x ∧ j = y then v else pC D (gD D) (cD D) (D.2 5) G0 i j
def REx (D : Dk) (x y : Nat) (v : Int) (m : Nat) : Prop := REnd (dp D) (pS D G0) (cX D x y v) (pP D (cD D) (D.2 5)) (fun _ _ => 0, pL D G0) m
noncomputable def mX (D : Dk) (x y : Nat) (v : Int) : Nat := Classical.epsilon (REx D x y v)
theorem mX_eq {D : Dk} {x y : Nat} {v : Int} {m : Nat} (h : REx D x y v m) : mX D x y v = m := REnd.uniq (Classical.epsilon_spec (p := REx D x y v) ⟨m, h⟩) h
noncomputable def tX (D : Dk) (x y : Nat) (v : Int) : Int := tt (dp D) (pS D G0) (cX D x y v) (pP D (cD D) (D.2 5)) (fun _ _ => 0, pL D G0) (mX D x y v)
section ROOM
variable {N : Nat} {σ : Sto} {b : Nat} {D : Dk}
theorem cX_fok (V : Val D) (K : GdD D) {x y : Nat} (h : lkD D x y = true) {v : Int} (v0 : 0 ≤ v) (v1 : v ≤ 200000000) : FOK (dp D) (pS D G0) (cX D x y v) (pP D (cD D) (D.2 5)) := by
  have O := p_fok (G := G0) V V.fok K
  have q := (lk_bd V h).1
  refine ⟨O.1, O.2.1, fun i j => ?_, fun i j z => ?_⟩
  · unfold cX
    split
    · exact ⟨v0, v1⟩
    · exact O.2.2.1 i j
  · unfold cX at z
    by_cases e : i = x ∧ j = y
    · rw [e.1, e.2]
      refine ⟨by omega, by omega, ?_, ?_⟩
      · show (if false = true then 0 else sgn (D.2 7 x)) < 0
        rw [if_neg (by decide), sgnN]; omega
      · show 0 < (if false = true then 0 else sgn (D.2 7 y))
        rw [if_neg (by decide), sgnP]; omega
    · rw [if_neg e] at z; exact O.2.2.2 i j z
theorem cX_sok (V : Val D) (K : GdD D) {x y : Nat} (h : lkD D x y = true) {v : Int} (v0 : 0 ≤ v) (v1 : v ≤ 200000000) : SOK (dp D) (pS D G0) (cX D x y v) (pP D (cD D) (D.2 5)) (fun _ _ => 0, pL D G0) := by
  have O := cX_fok V K h v0 v1
  refine ⟨fun i j => ⟨Int.le_refl _, (O.2.2.1 i j).1⟩, fun i hi => pL_bd (G := G0) V K hi, fun _ => 0, ?_⟩
  exact pot_start (fun i j _ _ => (O.2.1 i j).1)
theorem cX_prb (V : Val D) {x y : Nat} (h : lkD D x y = true) {v : Int} : Prb D (dp D) (pS D G0) (cX D x y v) (pP D (cD D) (D.2 5)) := by
  have P := p_prb (g := gD D) (c := cD D) (F := D.2 5) (G := G0) V
  refine ⟨rfl, P.2.1, fun i j z => ?_⟩
  unfold cX at z
  by_cases e : i = x ∧ j = y
  · rw [e.1, e.2]
    show prc D x y = if lkD D x y = true then prc D x y else 0
    rw [if_pos h]
  · rw [if_neg e] at z; exact P.2.2 i j z
/-- the room of a LINK -/
theorem pC_lk (V : Val D) (K : GdD D) {x y : Nat} (h : lkD D x y = true) : 0 ≤ pC D (gD D) (cD D) (D.2 5) G0 x y ∧ pC D (gD D) (cD D) (D.2 5) G0 x y ≤ 99999000 := by
  have q := lk_bd V h
  have t := takOn_bd V x y
  have k := K.2.1 x y h
  have e : pC D (gD D) (cD D) (D.2 5) G0 x y = bnd D (gD D) (D.2 5) x y - takOn D x y := by
    unfold pC; rw [if_pos ⟨h, rfl, rfl⟩]
  rw [e]; omega
theorem x_gain (hN : BigN N) (V : Val D) (K : GdD D) (X : XC σ b D) {x y : Nat} (h : lkD D x y = true) {m : Int} (m0 : -99999 ≤ m) (m1 : m ≤ 99999) : ∃ σ', F_X11_gainByRoom N x y m σ = some (tX D x y (mx 0 (pC D (gD D) (cD D) (D.2 5) G0 x y + m)) - tE D (gD D) (cD D) (D.2 5) G0, σ') ∧ XC σ' b D ∧ RO σ σ' ∧ RD D ∧ REx D x y (mx 0 (pC D (gD D) (cD D) (D.2 5) G0 x y + m)) (mX D x y (mx 0 (pC D (gD D) (cD D) (D.2 5) G0 x y + m))) := by
  have vz := V.sz
  have q := (lk_bd V h).1
  have pb := pC_lk V K h
  have mb := mx_le (a := 0) (b := pC D (gD D) (cD D) (D.2 5) G0 x y + m)
  obtain ⟨σ1, a1, a2, a3, a4, a5, a6⟩ := k_refreshFlow hN V K X
  have hb := a2.lt
  have hb3 := a2.ge
  obtain ⟨σ2, b1, b2, b3, b4⟩ := k_loaded (σ := σ1) (t := 83) (tn := 55) (l := 29) (w := 0) (G := G0) hN V V.fok K hb (by omega) (by omega) (by omega) (by omega) (by omega) a2.2.2.1 a4.2 a2.2.2.2.1 (fun p _ => tb_0 p)
  have f1 := fr_X1_load b1
  have f1' : ∀ a j, ¬ ((a = 83 ∧ j = 11) ∨ (84 ≤ a ∧ a ≤ 87)) → σ2.1 a j = σ1.1 a j := fun a j z => f1.1 a j (fun w => by unfold Wr_X1_load at w; omega)
  have ix : ja (jm (x : Int) 12) (y : Int) = 12 * x + y := ix12 (by omega) (by omega) (by omega) (by omega)
  have sx : pS D G0 x < 0 := by
    show (if false = true then 0 else sgn (D.2 7 x)) < 0
    rw [if_neg (by decide), sgnN]; omega
  have sy : 0 < pS D G0 y := by
    show 0 < (if false = true then 0 else sgn (D.2 7 y))
    rw [if_neg (by decide), sgnP]; omega
  have r0 : σ2.1 86 (12 * x + y) = pC D (gD D) (cD D) (D.2 5) G0 x y := (b4 x y (by omega) (by omega)).1 sx sy
  have O := cX_fok (v := mx 0 (pC D (gD D) (cD D) (D.2 5) G0 x y + m)) V K h (by omega) (by omega)
  have S := cX_sok (v := mx 0 (pC D (gD D) (cD D) (D.2 5) G0 x y + m)) V K h (by omega) (by omega)
  obtain ⟨k, σ3, c1, c2⟩ := k_run (σ := upI σ2 86 (12 * x + y) (mx 0 (pC D (gD D) (cD D) (D.2 5) G0 x y + m))) (t := 83) hN O S ((up_pl (by decide)).trans b2) (fun i hi => by rw [up_pl (by decide), up_pl (by decide)]; exact b3 i hi) (fun i j hi hj => ⟨fun g1 g2 => by
      show (upI σ2 86 _ _).1 86 _ = cX D x y _ i j
      unfold cX
      by_cases e : i = x ∧ j = y
      · rw [if_pos e, e.1, e.2, up_same]
      · rw [if_neg e, up_ix (by omega)]; exact (b4 i j hi hj).1 g1 g2, (up_pl (by decide)).trans (b4 i j hi hj).2⟩)
  have em := mX_eq (D := D) (x := x) (y := y) c2.1
  have f3 := fr_X1_run c1
  have e : ∀ a j, ¬ ((a = 83 ∧ 9 ≤ j ∧ j ≤ 13) ∨ (84 ≤ a ∧ a ≤ 92)) → σ3.1 a j = σ1.1 a j := fun a j z => (f3.1 a j (fun w => by unfold Wr_X1_run at w; omega)).trans ((up_pl (by omega)).trans (f1' a j (by omega)))
  have t1 : σ3.1 83 13 = tX D x y (mx 0 (pC D (gD D) (cD D) (D.2 5) G0 x y + m)) := by
    unfold tX; rw [em]; exact c2.2.2.2.1
  have t2 : σ3.1 58 13 = tE D (gD D) (cD D) (D.2 5) G0 := (e _ _ (by omega)).trans a5.2.2.2.1
  have w1 := ((goes_few O c2.1.1).2 k (Nat.le_refl _))
  have w1 : 0 ≤ tX D x y (mx 0 (pC D (gD D) (cD D) (D.2 5) G0 x y + m)) ∧ tX D x y (mx 0 (pC D (gD D) (cD D) (D.2 5) G0 x y + m)) ≤ 599994 := by
    unfold tX; rw [em]; exact w1
  have w2 : 0 ≤ tE D (gD D) (cD D) (D.2 5) G0 ∧ tE D (gD D) (cD D) (D.2 5) G0 ≤ 599994 := (goes_few (p_fok (G := G0) V V.fok K) a5.1.1).2 _ (Nat.le_refl _)
  refine ⟨σ3, ?_, a2.cg (fun a j z => e a j (by omega)) (a2.2.2.2.2.1.cg (fun j => e _ _ (by omega)) (fun j => (f3.2 49 j (fun w => by unfold Wr_X1_run at w; omega)).trans (f1.2 49 j (fun w => by unfold Wr_X1_load at w; omega)))), fun a j z => (e a j (by omega)).trans (a3 a j z), a5.1, by rw [em]; exact c2.1⟩
  unfold F_X11_gainByRoom
  rw [a1, Option.bind_some, a2.at, b1, Option.bind_some, ix, inb_in (by omega), r0, ja_eq ⟨by omega, by omega⟩, jmax_mx, c1, Option.bind_some, t1, t2, js_eq ⟨by omega, by omega⟩]
noncomputable def rWorth (D : Dk) (i j m : Int) : Int := if (1 ≤ m ∧ m ≤ 99999) ∧ lkD D i j = true then tX D i.toNat j.toNat (mx 0 (pC D (gD D) (cD D) (D.2 5) G0 i.toNat j.toNat + m)) - tE D (gD D) (cD D) (D.2 5) G0 else -1
noncomputable def rLack (D : Dk) (i j m : Int) : Int := if (1 ≤ m ∧ m ≤ 99999) ∧ lkD D i j = true then tE D (gD D) (cD D) (D.2 5) G0 - tX D i.toNat j.toNat (mx 0 (pC D (gD D) (cD D) (D.2 5) G0 i.toNat j.toNat - m)) else -1
abbrev RX' (D : Dk) (x y : Nat) (v : Int) : Prop := RD D ∧ REx D x y v (mX D x y v)
theorem x_worth (hN : BigN N) (V : Val D) (K : GdD D) (X : XC σ b D) (i j m : Int) : QX σ b D (F_X11_worth N i j m σ) (rWorth D i j m) ∧ ((1 ≤ m ∧ m ≤ 99999) ∧ lkD D i j = true → RX' D i.toNat j.toNat (mx 0 (pC D (gD D) (cD D) (D.2 5) G0 i.toNat j.toNat + m))) := by
  unfold F_X11_worth F_X11_worth_J21 rWorth
  by_cases h1 : m < 1
  · rw [if_pos h1, if_neg (by omega)]; exact ⟨QX.same X rfl, fun z => by omega⟩
  · rw [if_neg h1]
    by_cases h2 : 99999 < m
    · rw [if_pos h2, if_neg (by omega)]; exact ⟨QX.same X rfl, fun z => by omega⟩
    · obtain ⟨σ1, a1, a2, a3, a4, -⟩ := k_isLink hN V X i j
      rw [if_neg h2, a1, Option.bind_some]
      by_cases h : lkD D i j = true
      · have q := (lk_bd V h).1
        obtain ⟨x, rfl⟩ : ∃ x : Nat, i = x := ⟨i.toNat, by omega⟩
        obtain ⟨y, rfl⟩ : ∃ y : Nat, j = y := ⟨j.toNat, by omega⟩
        obtain ⟨σ2, b1, b2, b3, b4, b5⟩ := x_gain (σ := σ1) (m := m) hN V K a2 h (by omega) (by omega)
        show QX σ b D (if (if lkD D x y = true then (1 : Int) else 0) = 0 then _ else ((F_X11_gainByRoom N x y m σ1).bind _)) _ ∧ _
        rw [if_pos h, if_neg (by decide), if_pos ⟨⟨by omega, by omega⟩, h⟩, b1]
        exact ⟨⟨σ2, rfl, b2, a3.tr b3⟩, fun _ => ⟨b4, b5⟩⟩
      · show QX σ b D (if (if lkD D i j = true then (1 : Int) else 0) = 0 then _ else _) _ ∧ _
        rw [if_neg h, if_pos rfl, if_neg (fun z => h z.2)]
        exact ⟨⟨σ1, rfl, a2, a3⟩, fun z => absurd z.2 h⟩
theorem x_lack (hN : BigN N) (V : Val D) (K : GdD D) (X : XC σ b D) (i j m : Int) : QX σ b D (F_X11_lack N i j m σ) (rLack D i j m) ∧ ((1 ≤ m ∧ m ≤ 99999) ∧ lkD D i j = true → RX' D i.toNat j.toNat (mx 0 (pC D (gD D) (cD D) (D.2 5) G0 i.toNat j.toNat - m))) := by
  unfold F_X11_lack F_X11_lack_J21 rLack
  by_cases h1 : m < 1
  · rw [if_pos h1, if_neg (by omega)]; exact ⟨QX.same X rfl, fun z => by omega⟩
  · rw [if_neg h1]
    by_cases h2 : 99999 < m
    · rw [if_pos h2, if_neg (by omega)]; exact ⟨QX.same X rfl, fun z => by omega⟩
    · obtain ⟨σ1, a1, a2, a3, a4, -⟩ := k_isLink hN V X i j
      rw [if_neg h2, a1, Option.bind_some]
      by_cases h : lkD D i j = true
      · have q := (lk_bd V h).1
        obtain ⟨x, rfl⟩ : ∃ x : Nat, i = x := ⟨i.toNat, by omega⟩
        obtain ⟨y, rfl⟩ : ∃ y : Nat, j = y := ⟨j.toNat, by omega⟩
        obtain ⟨σ2, b1, b2, b3, b4, b5⟩ := x_gain (σ := σ1) (m := -m) hN V K a2 h (by omega) (by omega)
        rw [show pC D (gD D) (cD D) (D.2 5) G0 x y + -m = pC D (gD D) (cD D) (D.2 5) G0 x y - m by omega] at b1 b5
        have pb := pC_lk V K h
        have mb := mx_le (a := 0) (b := pC D (gD D) (cD D) (D.2 5) G0 x y - m)
        have O := cX_fok (v := mx 0 (pC D (gD D) (cD D) (D.2 5) G0 x y - m)) V K h (by omega) (by omega)
        have w1 : 0 ≤ tX D x y (mx 0 (pC D (gD D) (cD D) (D.2 5) G0 x y - m)) ∧ tX D x y (mx 0 (pC D (gD D) (cD D) (D.2 5) G0 x y - m)) ≤ 599994 := (goes_few O b5.1).2 _ (Nat.le_refl _)
        have w2 : 0 ≤ tE D (gD D) (cD D) (D.2 5) G0 ∧ tE D (gD D) (cD D) (D.2 5) G0 ≤ 599994 := (goes_few (p_fok (G := G0) V V.fok K) b4.1).2 _ (Nat.le_refl _)
        show QX σ b D (if (if lkD D x y = true then (1 : Int) else 0) = 0 then _ else ((F_X11_gainByRoom N x y (jneg m) σ1).bind _)) _ ∧ _
        rw [if_pos h, if_neg (by decide), if_pos ⟨⟨by omega, by omega⟩, h⟩, jneg_eq (a := m) ⟨by omega, by omega⟩, b1, Option.bind_some]
        show QX σ b D (some (jneg _, σ2)) _ ∧ _
        rw [jneg_eq ⟨by omega, by omega⟩]
        refine ⟨⟨σ2, ?_, b2, a3.tr b3⟩, fun _ => ⟨b4, b5⟩⟩
        show some (_, σ2) = some (_ - tX D x y _, σ2)
        rw [Int.neg_sub]; rfl
      · show QX σ b D (if (if lkD D i j = true then (1 : Int) else 0) = 0 then _ else _) _ ∧ _
        rw [if_neg h, if_pos rfl, if_neg (fun z => h z.2)]
        exact ⟨⟨σ1, rfl, a2, a3⟩, fun z => absurd z.2 h⟩
/-- the reference: its rooms laid, one changed, relieved -/
theorem m_gain (hN : BigN N) (V : Val D) (K : GdD D) (M : MK σ D) {x y : Nat} (h : lkD D x y = true) : ∃ σ1, F_X12_laysAll N (σ.1 100 0) 1 σ = some σ1 ∧ σ1.1 106 (12 * x + y) = pC D (gD D) (cD D) (D.2 5) G0 x y ∧ ∀ v : Int, 0 ≤ v → v ≤ 200000000 → REx D x y v (mX D x y v) → ∃ σ2, F_X12_relieves N (upI σ1 106 (12 * x + y) v) = some (tX D x y v, σ2) ∧ MK σ2 D ∧ MO σ σ2 := by
  have vz := V.sz
  have q := (lk_bd V h).1
  rw [M.1.1.1.2.2.1]
  obtain ⟨σ1, a1, a2, a3⟩ := m_laysAll (G := G0) (cl := 1) (D' := D) hN V M.1 (gD D) (fun p hp => by
    have w := (V.per (p := p) (by omega) (by omega)).1
    rw [M.2.2.1]
    exact (decide_eq_false (by omega)).symm) (Or.inl ⟨rfl, rfl, fun k _ => ⟨rfl, rfl⟩⟩)
  have f1 := fr_X12_laysAll a1
  refine ⟨σ1, a1, a3 x y (by omega) (by omega), fun v v0 v1 R => ?_⟩
  have m1 : MO σ (upI σ1 106 (12 * x + y) v) := ⟨fun a j z => (up_pl (by omega)).trans (f1.1 a j (fun z => by unfold Wr_X12_laysAll at z; omega)), fun j => f1.2 49 j (fun z => by unfold Wr_X12_laysAll at z; omega)⟩
  have M1 := M.cg V m1
  unfold tX
  obtain ⟨σ2, b1, b2, b3, b4⟩ := m_relieves (σ := upI σ1 106 (12 * x + y) v) (D := D) (n := dp D) (sd := pS D G0) (c := cX D x y v) (pr := pP D (cD D) (D.2 5)) (l := pL D G0) (m := mX D x y v) hN V M1.1 (cX_prb V h) (cX_fok V K h v0 v1) R (p_zr V K) (fun i hi => (up_pl (by decide)).trans (a2 i hi)) (fun i j hi hj => by
    unfold cX
    by_cases e : i = x ∧ j = y
    · rw [if_pos e, e.1, e.2, up_same]
    · rw [if_neg e, up_ix (by omega)]; exact a3 i j hi hj)
  have f2 := fr_X12_relieves b1
  have m2 : MO (upI σ1 106 (12 * x + y) v) σ2 := ⟨fun a j z => b4 a j (by omega) (by omega), fun j => f2.2 49 j (fun z => by unfold Wr_X12_relieves at z; omega)⟩
  exact ⟨σ2, b1, M1.cg V m2, m1.tr m2⟩
theorem m_worth (hN : BigN N) (V : Val D) (K : GdD D) (M : MK σ D) (i j m : Int) (R : (1 ≤ m ∧ m ≤ 99999) ∧ lkD D i j = true → RX' D i.toNat j.toNat (mx 0 (pC D (gD D) (cD D) (D.2 5) G0 i.toNat j.toNat + m))) : QM σ D (F_X12_worth N i j m σ) (rWorth D i j m) := by
  have vz := V.sz
  obtain ⟨M', m'⟩ := M.up2 V 0
  unfold F_X12_worth rWorth
  rw [m_isLink M'.1 V, Option.bind_some]
  by_cases h : lkD D i j = true
  · rw [if_pos h, if_neg (by decide), m_isIn, Option.bind_some]
    by_cases h2 : 1 ≤ m ∧ m ≤ 99999
    · have q := (lk_bd V h).1
      obtain ⟨x, rfl⟩ : ∃ x : Nat, i = x := ⟨i.toNat, by omega⟩
      obtain ⟨y, rfl⟩ : ∃ y : Nat, j = y := ⟨j.toNat, by omega⟩
      obtain ⟨R1, R2⟩ := R ⟨h2, h⟩
      rw [Int.toNat_natCast, Int.toNat_natCast] at R2
      have pb := pC_lk V K h
      have ev : mx 0 (pC D (gD D) (cD D) (D.2 5) G0 x y + m) = pC D (gD D) (cD D) (D.2 5) G0 x y + m := by unfold mx; split <;> omega
      have mb := mx_le (a := 0) (b := pC D (gD D) (cD D) (D.2 5) G0 x y + m)
      obtain ⟨σ1, a1, a2, a3, a4, a5⟩ := m_solves hN V K M' R1
      obtain ⟨σ2, b1, b2, b3⟩ := m_gain hN V K a2 h
      obtain ⟨σ3, c1, c2, c3⟩ := b3 _ (by omega) (by omega) R2
      have O := cX_fok (v := mx 0 (pC D (gD D) (cD D) (D.2 5) G0 x y + m)) V K h (by omega) (by omega)
      have w1 : 0 ≤ tX D x y (mx 0 (pC D (gD D) (cD D) (D.2 5) G0 x y + m)) ∧ tX D x y (mx 0 (pC D (gD D) (cD D) (D.2 5) G0 x y + m)) ≤ 599994 := (goes_few O R2.1).2 _ (Nat.le_refl _)
      have w2 : 0 ≤ tE D (gD D) (cD D) (D.2 5) G0 ∧ tE D (gD D) (cD D) (D.2 5) G0 ≤ 599994 := (goes_few (p_fok (G := G0) V V.fok K) R1.1).2 _ (Nat.le_refl _)
      have ix : ja (jm 12 (x : Int)) (y : Int) = 12 * x + y := ix12' (by omega) (by omega) (by omega) (by omega)
      rw [if_pos h2, if_neg (by decide), if_pos ⟨h2, h⟩, a1, Option.bind_some, inb_in (by omega), b1, Option.bind_some, ix, inb_in (by omega), b2, ja_eq ⟨by omega, by omega⟩, ← ev, c1, Option.bind_some]
      refine ⟨σ3, ?_, c2, m'.tr (a3.tr c3)⟩
      show some (js (tX D x y _) (tE D (gD D) (cD D) (D.2 5) G0), σ3) = _
      rw [js_eq ⟨by omega, by omega⟩]; rfl
    · rw [if_neg h2, if_pos rfl, if_neg (fun z => h2 z.1)]; exact QM.same V M rfl
  · rw [if_neg h, if_pos rfl, if_neg (fun z => h z.2)]; exact QM.same V M rfl
theorem m_lack (hN : BigN N) (V : Val D) (K : GdD D) (M : MK σ D) (i j m : Int) (R : (1 ≤ m ∧ m ≤ 99999) ∧ lkD D i j = true → RX' D i.toNat j.toNat (mx 0 (pC D (gD D) (cD D) (D.2 5) G0 i.toNat j.toNat - m))) : QM σ D (F_X12_lack N i j m σ) (rLack D i j m) := by
  have vz := V.sz
  obtain ⟨M', m'⟩ := M.up2 V 0
  unfold F_X12_lack rLack
  rw [m_isLink M'.1 V, Option.bind_some]
  by_cases h : lkD D i j = true
  · rw [if_pos h, if_neg (by decide), m_isIn, Option.bind_some]
    by_cases h2 : 1 ≤ m ∧ m ≤ 99999
    · have q := (lk_bd V h).1
      obtain ⟨x, rfl⟩ : ∃ x : Nat, i = x := ⟨i.toNat, by omega⟩
      obtain ⟨y, rfl⟩ : ∃ y : Nat, j = y := ⟨j.toNat, by omega⟩
      obtain ⟨R1, R2⟩ := R ⟨h2, h⟩
      rw [Int.toNat_natCast, Int.toNat_natCast] at R2
      have pb := pC_lk V K h
      have mb := mx_le (a := 0) (b := pC D (gD D) (cD D) (D.2 5) G0 x y - m)
      obtain ⟨σ1, a1, a2, a3, a4, a5⟩ := m_solves hN V K M' R1
      obtain ⟨σ2, b1, b2, b3⟩ := m_gain hN V K a2 h
      obtain ⟨σ3, c1, c2, c3⟩ := b3 _ (by omega) (by omega) R2
      have O := cX_fok (v := mx 0 (pC D (gD D) (cD D) (D.2 5) G0 x y - m)) V K h (by omega) (by omega)
      have w1 : 0 ≤ tX D x y (mx 0 (pC D (gD D) (cD D) (D.2 5) G0 x y - m)) ∧ tX D x y (mx 0 (pC D (gD D) (cD D) (D.2 5) G0 x y - m)) ≤ 599994 := (goes_few O R2.1).2 _ (Nat.le_refl _)
      have w2 : 0 ≤ tE D (gD D) (cD D) (D.2 5) G0 ∧ tE D (gD D) (cD D) (D.2 5) G0 ≤ 599994 := (goes_few (p_fok (G := G0) V V.fok K) R1.1).2 _ (Nat.le_refl _)
      have ix : ja (jm 12 (x : Int)) (y : Int) = 12 * x + y := ix12' (by omega) (by omega) (by omega) (by omega)
      have fin : (if pC D (gD D) (cD D) (D.2 5) G0 x y ≤ m then F_X12_lack_J85 N (tE D (gD D) (cD D) (D.2 5) G0) (12 * x + y) 0 σ2 else F_X12_lack_J85 N (tE D (gD D) (cD D) (D.2 5) G0) (12 * x + y) (js (pC D (gD D) (cD D) (D.2 5) G0 x y) m) σ2) = F_X12_lack_J85 N (tE D (gD D) (cD D) (D.2 5) G0) (12 * x + y) (mx 0 (pC D (gD D) (cD D) (D.2 5) G0 x y - m)) σ2 := by
        unfold mx
        by_cases z : pC D (gD D) (cD D) (D.2 5) G0 x y ≤ m
        · rw [if_pos z, if_neg (by omega)]
        · rw [if_neg z, if_pos (by omega), js_eq ⟨by omega, by omega⟩]
      rw [if_pos h2, if_neg (by decide), if_pos ⟨h2, h⟩, a1, Option.bind_some, inb_in (by omega), b1, Option.bind_some, ix, inb_in (by omega), b2]
      refine ⟨σ3, fin.trans ?_, c2, m'.tr (a3.tr c3)⟩
      unfold F_X12_lack_J85
      rw [inb_in (by omega), c1, Option.bind_some]
      show some (js (tE D (gD D) (cD D) (D.2 5) G0) (tX D x y _), σ3) = _
      rw [js_eq ⟨by omega, by omega⟩]; rfl
    · rw [if_neg h2, if_pos rfl, if_neg (fun z => h2 z.1)]; exact QM.same V M rfl
  · rw [if_neg h, if_pos rfl, if_neg (fun z => h z.2)]; exact QM.same V M rfl
end ROOM
