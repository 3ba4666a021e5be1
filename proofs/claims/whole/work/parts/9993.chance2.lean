/-! BY CHANCE: both sides -/
theorem chS_step {D : Dk} {x : Int} {k : Nat} {a s : Int} (h1 : (chS D x k).1 = a) (h2 : (chS D x k).2.2 = s) : ((lkD D (drw (nxN a) (dp D)) (drw (nxN (nxN a)) (dp D)) = true ∧ dc (chS D x k).2.1 < 30 ∧ canE (chS D x k).2.1 (drw (nxN a) (dp D)) (drw (nxN (nxN a)) (dp D)) (drw (nxN (nxN (nxN a))) 1000 + 1)) → chS D x (k + 1) = (nxN (nxN (nxN a)), addC (chS D x k).2.1 (drw (nxN a) (dp D)) (drw (nxN (nxN a)) (dp D)) (drw (nxN (nxN (nxN a))) 1000 + 1), s + (drw (nxN (nxN (nxN a))) 1000 + 1))) ∧ (¬ (lkD D (drw (nxN a) (dp D)) (drw (nxN (nxN a)) (dp D)) = true ∧ dc (chS D x k).2.1 < 30 ∧ canE (chS D x k).2.1 (drw (nxN a) (dp D)) (drw (nxN (nxN a)) (dp D)) (drw (nxN (nxN (nxN a))) 1000 + 1)) → chS D x (k + 1) = (nxN (nxN (nxN a)), (chS D x k).2.1, s)) := by
  subst h1; subst h2
  exact ⟨fun p => if_pos p, fun p => if_neg p⟩
section CHB
variable {N : Nat} {σ : Sto} {b : Nat} {D : Dk}
theorem x_chance (hN : BigN N) (V : Val D) (K : GdD D) (X : XC σ b D) (s n w : Int) (hs : inR s) : QX σ b D (F_X11_chance N s n w σ) (rChance D s n w) ∧ (-1 ≤ s ∧ (1 ≤ n ∧ n ≤ 60) ∧ 1 ≤ dp D → RCh D s n) := by
  have vz := V.sz
  have hb := X.lt
  have hb3 := X.ge
  have e9 : σ.1 b 9 = dp D := X.2.2.1.1.2.1
  have e13 : σ.1 b 13 = D.2 0 2 := X.2.2.1.1.2.2.2.2.2
  have sc := V.sc
  -- the run of the draws
  have run : -1 ≤ s → (1 ≤ n ∧ n ≤ 60) → 1 ≤ dp D → ∀ w : Int, ∃ σ1, F_X5_copy N 73 29 σ = some σ1 ∧ XC σ1 b D ∧ RO σ σ1 ∧ ∃ σ2, F_X11_chance_J65 N n w (sdC D s) σ1 = F_X11_chance_J170 N w (chS D (sdC D s) n.toNat).2.2 σ2 ∧ XC σ2 b D ∧ RO σ1 σ2 ∧ LedR σ2 73 (chS D (sdC D s) n.toNat).2.1 := fun h1 h2 h3 w => by
    obtain ⟨σ1, a1, a2, a3, a4⟩ := k_copyLed (N := N) (l := 73) V (Or.inl (by decide)) X.2.2.2.1
    have X1 : XC σ1 b D := X.cg (fun a j h => a3 a j (by omega)) (X.2.2.2.2.1.cg (fun j => a3 _ _ (by omega)) (fun j => by rw [a4]))
    have R1 : RO σ σ1 := fun a j h => a3 a j (by omega)
    have x0 : 0 ≤ sdC D s ∧ sdC D s < 2147483648 := by
      have := hs.2
      unfold sdC
      split <;> omega
    obtain ⟨m, rfl⟩ : ∃ m : Nat, n = m := ⟨n.toNat, by omega⟩
    refine ⟨σ1, a1, X1, R1, ?_⟩
    unfold F_X11_chance_J65
    rw [Int.toNat_natCast]
    obtain ⟨t, ⟨t1, t2, t3, t4, t5, t6⟩, t7⟩ := loop_A (b := fun q nx73 => F_X11_chance_B73 N nx73 (m : Int) w q.1 q.2.1 q.2.2.1 q.2.2.2) (fin := fun q => F_X11_chance_J170 N w q.2.1 q.2.2.2) (N := N) (s0 := (sdC D s, (0 : Int), (0 : Int), σ1)) (fun k q => q.1 = (chS D (sdC D s) k).1 ∧ q.2.1 = (chS D (sdC D s) k).2.2 ∧ q.2.2.1 = k ∧ XC q.2.2.2 b D ∧ RO σ1 q.2.2.2 ∧ LedR q.2.2.2 73 (chS D (sdC D s) k).2.1) m (bigN hN) ⟨rfl, rfl, rfl, X1, RO.rf, a2⟩ (fun k q hk hI => by
      obtain ⟨v4, v5, v6, τ⟩ := q
      obtain ⟨i1, i2, i3, i4, i5, i6⟩ := hI
      have i1 : v4 = (chS D (sdC D s) k).1 := i1
      have i2 : v5 = (chS D (sdC D s) k).2.2 := i2
      have i3 : v6 = k := i3
      have i4 : XC τ b D := i4
      subst i3
      obtain ⟨c1, c2, c3, c4, c5, c6, c7⟩ := chS_ok V K h3 x0.1 x0.2 k (by omega)
      rw [← i1] at c1
      have nb1 := nxN_bd v4
      have nb2 := nxN_bd (nxN v4)
      have nb3 := nxN_bd (nxN (nxN v4))
      have f9 : τ.1 b 9 = dp D := i4.2.2.1.1.2.1
      have d1 := drw_bd (x := nxN v4) (m := (dp D : Int)) (by omega)
      have d2 := drw_bd (x := nxN (nxN v4)) (m := (dp D : Int)) (by omega)
      have d3 := drw_bd (x := nxN (nxN (nxN v4))) (m := 1000) (by omega)
      obtain ⟨τ1, e1, e2, e3, e4⟩ := k_enter hN V c3 c2 i4 (Or.inr rfl) i6 (drw (nxN v4) (dp D)) (drw (nxN (nxN v4)) (dp D)) (drw (nxN (nxN (nxN v4))) 1000 + 1)
      have step : ∀ nx r τ', F_X11_enter N 73 (drw (nxN v4) (dp D)) (drw (nxN (nxN v4)) (dp D)) (drw (nxN (nxN (nxN v4))) 1000 + 1) τ = some (r, τ') → F_X11_chance_B73 N nx (m : Int) w v4 v5 k τ = if r < 0 then nx (nxN (nxN (nxN v4)), v5, (k : Int) + 1, τ') else nx (nxN (nxN (nxN v4)), v5 + (drw (nxN (nxN (nxN v4))) 1000 + 1), (k : Int) + 1, τ') := fun nx r τ' he => by
        unfold F_X11_chance_B73 F_X11_nextNumber F_X11_chance_J164
        rw [if_neg (by omega), nx_int, Option.bind_some, i4.at, f9, k_drawn nb1.1 nb1.2 (by omega) (by omega), Option.bind_some, nx_int, Option.bind_some, i4.at, f9, k_drawn nb2.1 nb2.2 (by omega) (by omega), Option.bind_some, nx_int, Option.bind_some, k_drawn nb3.1 nb3.2 (by omega) (by omega), Option.bind_some, ja_1 (k := drw (nxN (nxN (nxN v4))) 1000) (by omega) (by omega), he, Option.bind_some, ja_1 (k := (k : Int)) (by omega) (by omega), ja_eq ⟨by omega, by omega⟩]
      have en' := chS_step i1.symm i2.symm
      have bad : ∀ r, r < 0 → F_X11_enter N 73 (drw (nxN v4) (dp D)) (drw (nxN (nxN v4)) (dp D)) (drw (nxN (nxN (nxN v4))) 1000 + 1) τ = some (r, τ1) → ¬ (lkD D (drw (nxN v4) (dp D)) (drw (nxN (nxN v4)) (dp D)) = true ∧ dc (chS D (sdC D s) k).2.1 < 30 ∧ canE (chS D (sdC D s) k).2.1 (drw (nxN v4) (dp D)) (drw (nxN (nxN v4)) (dp D)) (drw (nxN (nxN (nxN v4))) 1000 + 1)) → ∃ q', (q'.1 = (chS D (sdC D s) (k + 1)).1 ∧ q'.2.1 = (chS D (sdC D s) (k + 1)).2.2 ∧ q'.2.2.1 = ((k + 1 : Nat) : Int) ∧ XC q'.2.2.2 b D ∧ RO σ1 q'.2.2.2 ∧ LedR q'.2.2.2 73 (chS D (sdC D s) (k + 1)).2.1) ∧ ∀ nx, F_X11_chance_B73 N nx (m : Int) w v4 v5 k τ = nx q' := fun r hr he hn => by
        have ec := en'.2 hn
        refine ⟨(nxN (nxN (nxN v4)), v5, (k : Int) + 1, τ1), ⟨by rw [ec], by rw [ec], by show (k : Int) + 1 = ((k + 1 : Nat) : Int); omega, e1, i5.tr e2, by rw [ec]; exact e3⟩, fun nx => ?_⟩
        rw [step nx r τ1 he, if_pos hr]
      rcases e4 with ⟨g1, g2⟩ | ⟨g1, g2, g3, g4⟩
      · refine bad (-1) (by omega) g2 (fun z => ?_)
        rcases g1 with g1 | g1
        · omega
        · rw [g1] at z; exact absurd z.1 (by decide)
      · rcases g4 with ⟨g4, g5⟩ | ⟨g4, g5, g6⟩ | ⟨g4, g5, τ2, g6, g7, g8, g9⟩
        · exact bad (-2) (by omega) g5 (fun z => by omega)
        · exact bad (-3) (by omega) g6 (fun z => g5 z.2.2)
        · have ec := en'.1 ⟨g2, g4, g5⟩
          refine ⟨(nxN (nxN (nxN v4)), v5 + (drw (nxN (nxN (nxN v4))) 1000 + 1), (k : Int) + 1, τ2), ⟨by rw [ec], by rw [ec], by show (k : Int) + 1 = ((k + 1 : Nat) : Int); omega, e1.cg (fun a j h => g8 a j (by omega)) (e1.2.2.2.2.1.cg (fun j => g8 _ _ (by omega)) (fun j => by rw [g9])), (i5.tr e2).tr (fun a j h => g8 a j (by omega)), by rw [ec]; exact g7⟩, fun nx => ?_⟩
          show F_X11_chance_B73 N nx (m : Int) w v4 v5 k τ = _
          rw [step nx _ τ2 g6, if_neg (by omega)]) (fun q hI nx => by
      obtain ⟨v4, v5, v6, τ⟩ := q
      have i3 : v6 = (m : Int) := hI.2.2.1
      show F_X11_chance_B73 N nx (m : Int) w v4 v5 v6 τ = F_X11_chance_J170 N w v5 τ
      unfold F_X11_chance_B73
      rw [i3, if_pos (Int.le_refl _)])
    refine ⟨t.2.2.2, ?_, t4, t5, t6⟩
    rw [t7, t2]
  have fin : -1 ≤ s → (1 ≤ n ∧ n ≤ 60) → 1 ≤ dp D → ∀ (σ2 : Sto), XC σ2 b D → LedR σ2 73 (chS D (sdC D s) n.toNat).2.1 → ∃ σ3, F_X11_chance_J170 N 2 (chS D (sdC D s) n.toNat).2.2 σ2 = some (tE (chS D (sdC D s) n.toNat).2.1 (gD D) (cD D) (D.2 5) G0, σ3) ∧ XC σ3 b D ∧ RO σ2 σ3 ∧ RCh D s n := fun h1 h2 h3 σ2 X2 L2 => by
    have x0 : 0 ≤ sdC D s ∧ sdC D s < 2147483648 := by
      have := hs.2
      unfold sdC
      split <;> omega
    obtain ⟨c1, c2, c3, c4, c5, c6, c7⟩ := chS_ok V K h3 x0.1 x0.2 n.toNat (by omega)
    obtain ⟨σ4, a1, a2, a3, a4, a5, a6⟩ := k_refreshNet hN V X2
    have L4 := L2.cg (σ' := σ4) (fun a j p q => a6 a j (by omega))
    obtain ⟨σ5, σ6, b1, b2, b3⟩ := k_solve (σ := σ4) (D := (chS D (sdC D s) n.toNat).2.1) (g := gD D) (c := cD D) (F := D.2 5) (t := 83) (tn := 55) (l := 73) (w := 0) (G := G0) hN c3 (by unfold FOk; rw [c2.1.2.1, c2.2 6 (by decide)]; exact V.fok) c4 hb (by omega) (by omega) (by omega) (by omega) (by omega) (c2.bok a2.2.2.1) (c2.net a5.2) L4 (fun p _ => tb_0 p)
    have f2 := fr_X1_load b1
    have f3 := fr_X1_run b2
    have e : ∀ a j, ¬ (83 ≤ a ∧ a ≤ 92) → σ6.1 a j = σ4.1 a j := fun a j h2 => (f3.1 a j (fun z => by unfold Wr_X1_run at z; omega)).trans (f2.1 a j (fun z => by unfold Wr_X1_load at z; omega))
    refine ⟨σ6, ?_, a2.cg (fun a j h => e a j (by omega)) (a2.2.2.2.2.1.cg (fun j => e _ _ (by omega)) (fun j => (f3.2 49 j (fun z => by unfold Wr_X1_run at z; omega)).trans (f2.2 49 j (fun z => by unfold Wr_X1_load at z; omega)))), a3.tr (fun a j h => e a j (by omega)), b3.ends⟩
    unfold F_X11_chance_J170
    rw [if_pos (by decide), a1, Option.bind_some, a2.at, b1, Option.bind_some, b2, Option.bind_some, b3.2.2.2.1]
    rfl
  constructor
  · unfold F_X11_chance rChance
    by_cases h1 : s < -1
    · rw [if_pos h1, if_neg (by omega)]; exact QX.same X rfl
    rw [if_neg h1]
    by_cases h2 : n < 1
    · rw [if_pos h2, if_neg (by omega)]; exact QX.same X rfl
    rw [if_neg h2]
    by_cases h3 : 60 < n
    · rw [if_pos h3, if_neg (by omega)]; exact QX.same X rfl
    rw [if_neg h3]
    by_cases h4 : w < 0
    · rw [if_pos h4, if_neg (by omega)]; exact QX.same X rfl
    rw [if_neg h4]
    by_cases h5 : 2 < w
    · rw [if_pos h5, if_neg (by omega)]; exact QX.same X rfl
    rw [if_neg h5, X.at, e9]
    by_cases h6 : 1 ≤ (dp D : Int)
    · rw [if_pos h6, if_pos (by omega)]
      obtain ⟨σ1, a1, a2, a3, σ2, a4, a5, a6, a7⟩ := run (by omega) (by omega) (by omega) w
      have g13 : σ1.1 b 13 = D.2 0 2 := a2.2.2.1.1.2.2.2.2.2
      have ent : QX σ b D (F_X11_chance_J65 N n w (sdC D s) σ1) (if w = 0 then (dc (chS D (sdC D s) n.toNat).2.1 : Int) - dc D else if w = 1 then (chS D (sdC D s) n.toNat).2.2 else tE (chS D (sdC D s) n.toNat).2.1 (gD D) (cD D) (D.2 5) G0) := by
        rw [a4]
        have x0 : 0 ≤ sdC D s ∧ sdC D s < 2147483648 := by
          have := hs.2
          unfold sdC
          split <;> omega
        obtain ⟨c1, c2, c3, c4, c5, c6, c7⟩ := chS_ok V K (by omega) x0.1 x0.2 n.toNat (by omega)
        have cz := c3.sz
        by_cases w0 : w = 0
        · unfold F_X11_chance_J170
          rw [if_neg (by omega), if_pos w0, if_pos w0, a7.1, a5.2.2.2.1.1, js_eq ⟨by omega, by omega⟩]
          exact ⟨σ2, rfl, a5, a3.tr a6⟩
        · rw [if_neg w0]
          by_cases w1 : w = 1
          · unfold F_X11_chance_J170
            rw [if_neg (by omega), if_neg w0, if_pos w1]
            exact ⟨σ2, rfl, a5, a3.tr a6⟩
          · obtain ⟨σ3, f1, f2, f3, -⟩ := fin (by omega) (by omega) (by omega) σ2 a5 a7
            rw [if_neg w1, show w = 2 by omega, f1]
            exact ⟨σ3, rfl, f2, (a3.tr a6).tr f3⟩
      rw [a1, Option.bind_some]
      by_cases q : s = -1
      · rw [if_pos q, a2.at, g13]
        have e : sdC D s = D.2 0 2 := by unfold sdC; rw [if_pos q]
        rw [e] at ent ⊢
        exact ent
      · rw [if_neg q]
        have e : sdC D s = s := by unfold sdC; rw [if_neg q]
        rw [e] at ent ⊢
        exact ent
    · rw [if_neg h6, if_neg (by omega)]; exact QX.same X rfl
  · rintro ⟨h1, h2, h3⟩
    obtain ⟨σ1, a1, a2, a3, σ2, a4, a5, a6, a7⟩ := run h1 h2 h3 2
    exact (fin h1 h2 h3 σ2 a5 a7).choose_spec.2.2.2
theorem m_chance (hN : BigN N) (V : Val D) (K : GdD D) (M : MK σ D) (s n w : Int) (hs : inR s) (R : -1 ≤ s ∧ (1 ≤ n ∧ n ≤ 60) ∧ 1 ≤ dp D → RCh D s n) : QM σ D (F_X12_chance N s n w σ) (rChance D s n w) := by
  have vz := V.sz
  have sc := V.sc
  obtain ⟨M', m'⟩ := M.up2 V 0
  have e14 : (upI σ 94 2 0).1 94 14 = dp D := M'.1.1.1.2.1
  have e2 : (upI σ 94 2 0).1 100 2 = D.2 0 2 := M'.1.1.1.2.2.2.2.1
  have e100 : (upI σ 94 2 0).1 100 0 = gD D := M'.1.1.1.2.2.1
  have main : -1 ≤ s → (1 ≤ n ∧ n ≤ 60) → (0 ≤ w ∧ w ≤ 2) → 1 ≤ dp D → QM σ D (F_X12_chance_J56 N n w (sdC D s) (upI σ 94 2 0)) (if w = 0 then (dc (chS D (sdC D s) n.toNat).2.1 : Int) - dc D else if w = 1 then (chS D (sdC D s) n.toNat).2.2 else tE (chS D (sdC D s) n.toNat).2.1 (gD D) (cD D) (D.2 5) G0) := fun h1 h2 hw h3 => by
    have x0 : 0 ≤ sdC D s ∧ sdC D s < 2147483648 := by
      have := hs.2
      unfold sdC
      split <;> omega
    obtain ⟨m, rfl⟩ : ∃ m : Nat, n = m := ⟨n.toNat, by omega⟩
    rw [Int.toNat_natCast]
    have R' := R ⟨h1, h2, h3⟩
    unfold RCh at R'
    rw [Int.toNat_natCast] at R'
    obtain ⟨σ1, c1, c2, c3, c4⟩ := m_copyBank (N := N) (σ := upF (upI σ 94 2 0) 94 47 (sdC D s)) hN (f := 0) (t := 1) (by decide) (by decide) (by decide)
    have c1 : F_X12_copyBank N 0 1 (upF (upI σ 94 2 0) 94 47 (sdC D s)) = some σ1 := c1
    have c3 : ∀ a z, ¬ (a = 101 ∧ 200 ≤ z ∧ z < 400) → σ1.1 a z = (upI σ 94 2 0).1 a z := fun a z q => c3 a z (by omega)
    have B0 : BkM (upI σ 94 2 0) 0 D := by
      obtain ⟨k0, hk, g2, g3⟩ := M'.1.2
      rw [M'.2.1] at g2
      rw [g2]; exact g3
    have B1 : BkM σ1 1 D := BkM.cp (σ := upI σ 94 2 0) (f := 0) (t := 1) V B0 (fun k k0 k1 => c2 k k0 k1)
    let ρ : Sto := upI σ1 94 24 1
    have Mr : ModR ρ D := ⟨M'.1.1.cg (fun j hj => by show (upI σ1 94 24 1).1 94 j = _; rw [up_ix (by omega)]; exact c3 _ _ (by omega)) (fun j => by show (upI σ1 94 24 1).1 97 j = _; rw [up_pl (by decide)]; exact c3 _ _ (by omega)) (fun j => by show (upI σ1 94 24 1).1 98 j = _; rw [up_pl (by decide)]; exact c3 _ _ (by omega)) (fun j _ => by show (upI σ1 94 24 1).1 100 j = _; rw [up_pl (by decide)]; exact c3 _ _ (by omega)), 1, Or.inr rfl, up_same, B1.cg (fun j _ _ => up_pl (by decide)) V⟩
    obtain ⟨σ3, s1, s2⟩ := m_stretches hN Mr V (gD D)
    have fs := fr_X12_laysStretches s1
    have f3 : ∀ a z, ¬ (102 ≤ a ∧ a ≤ 104) → ¬ (a = 94 ∧ z = 30) → σ3.1 a z = ρ.1 a z := fun a z p q => fs.1 a z (fun y => by unfold Wr_X12_laysStretches at y; omega)
    have f3b : ∀ a z, ¬ (102 ≤ a ∧ a ≤ 104) → ¬ (a = 94 ∧ z = 30) → σ3.2 a z = ρ.2 a z := fun a z p q => fs.2 a z (fun y => by unfold Wr_X12_laysStretches at y; omega)
    have r100 : ρ.1 100 0 = gD D := by show (upI σ1 94 24 1).1 100 0 = _; rw [up_pl (by decide), c3 _ _ (by omega)]; exact e100
    unfold F_X12_chance_J56
    rw [c1, Option.bind_some, inb_in (by omega)]
    show QM σ D ((F_X12_laysStretches N (ρ.1 100 0) ρ).bind _) _
    rw [r100, s1, Option.bind_some]
    -- what stays: all but bank 1
    let St1 : Sto → Prop := fun τ => (∀ a z, ¬ (a = 101 ∧ 200 ≤ z ∧ z < 400) → τ.1 a z = σ3.1 a z) ∧ ∀ j, τ.2 49 j = σ3.2 49 j
    obtain ⟨t, ⟨t1, t2, t3, t4, t5, t6⟩, t7⟩ := loop_A (b := fun q nx89 => F_X12_chance_B89 N nx89 (m : Int) w q.1 q.2.1 q.2.2.1 q.2.2.2) (fin := fun q => F_X12_chance_J189 N w q.1 q.2.1 q.2.2.2) (N := N) (s0 := ((0 : Int), (0 : Int), (0 : Int), σ3)) (fun k q => q.1 = (dc (chS D (sdC D s) k).2.1 : Int) - dc D ∧ q.2.1 = (chS D (sdC D s) k).2.2 ∧ q.2.2.1 = k ∧ q.2.2.2.2 94 47 = (chS D (sdC D s) k).1 ∧ BkM q.2.2.2 1 (chS D (sdC D s) k).2.1 ∧ St1 q.2.2.2) m (bigN hN) ⟨by show (0 : Int) = (dc D : Int) - dc D; omega, rfl, rfl, by
      show σ3.2 94 47 = _
      rw [f3b _ _ (by omega) (by omega)]
      show σ1.2 94 47 = _
      rw [c4]; exact upF_same, (show BkM σ3 1 D from (B1.cg (σ' := ρ) (fun j _ _ => up_pl (by decide)) V).cg (fun j _ _ => f3 _ _ (by omega) (by omega)) V), fun _ _ _ => rfl, fun _ => rfl⟩ (fun k q hk hI => by
      obtain ⟨v4, v5, v6, τ⟩ := q
      obtain ⟨i1, i2, i3, i4, i5, i6⟩ := hI
      have i1 : v4 = (dc (chS D (sdC D s) k).2.1 : Int) - dc D := i1
      have i2 : v5 = (chS D (sdC D s) k).2.2 := i2
      have i3 : v6 = k := i3
      have i4 : τ.2 94 47 = (chS D (sdC D s) k).1 := i4
      have i5 : BkM τ 1 (chS D (sdC D s) k).2.1 := i5
      have i6 : St1 τ := i6
      subst i3
      obtain ⟨y1, y2, y3, y4, y5, y6, y7⟩ := chS_ok V K h3 x0.1 x0.2 k (by omega)
      have yz := y3.sz
      generalize hx : (chS D (sdC D s) k).1 = x at *
      have nb1 := nxN_bd x
      have nb2 := nxN_bd (nxN x)
      have nb3 := nxN_bd (nxN (nxN x))
      have d1 := drw_bd (x := nxN x) (m := (dp D : Int)) (by omega)
      have d2 := drw_bd (x := nxN (nxN x)) (m := (dp D : Int)) (by omega)
      have d3 := drw_bd (x := nxN (nxN (nxN x))) (m := 1000) (by omega)
      let τ1 : Sto := upF (upF (upF τ 94 47 (nxN x)) 94 47 (nxN (nxN x))) 94 47 (nxN (nxN (nxN x)))
      have g1 : τ1.1 = τ.1 := rfl
      have t14 : τ.1 94 14 = dp D := by rw [i6.1 _ _ (by omega), f3 _ _ (by omega) (by omega)]; show (upI σ1 94 24 1).1 94 14 = _; rw [up_ix (by decide), c3 _ _ (by omega)]; exact e14
      have h24 : τ1.1 94 24 = 1 := by rw [g1, i6.1 _ _ (by omega), f3 _ _ (by omega) (by omega)]; exact up_same
      have tx : ∀ a z, (a = 94 ∧ (z = 11 ∨ z = 14 ∨ z = 31 ∨ z = 32 ∨ z = 33)) ∨ a = 97 ∨ a = 98 ∨ a = 100 → τ1.1 a z = ρ.1 a z := fun a z p => by rw [g1, i6.1 _ _ (by omega), f3 _ _ (by omega) (by omega)]
      have M1 : ModR τ1 (chS D (sdC D s) k).2.1 := ⟨y2.txm (Mr.1.cg (fun j p => tx 94 j (by omega)) (fun j => tx 97 j (by omega)) (fun j => tx 98 j (by omega)) (fun j _ => tx 100 j (by omega))), 1, Or.inr rfl, h24, i5⟩
      have S1 : StrM τ1 (chS D (sdC D s) k).2.1 (gD (chS D (sdC D s) k).2.1) := by
        have S0 : StrM τ1 D (gD D) := s2.cg (by rw [g1, i6.1 _ _ (by omega)]) (fun j => by rw [g1, i6.1 _ _ (by omega)]) (fun j => by rw [g1, i6.1 _ _ (by omega)])
        rw [y2.g.1]
        refine ⟨by rw [y2.sim.nsD']; exact S0.1, fun i hi => ?_, fun i hi m' hm' => ?_⟩
        · rw [y2.sim.nsD'] at hi
          rw [y2.sim.stD']; exact S0.2.1 i hi
        · rw [y2.sim.nsD'] at hi
          rw [y2.1.1] at hm'
          rw [y2.sim.stD', y2.sim.pct', y2.1.1]; exact S0.2.2 i hi m' hm'
      have lke : F_X12_isLink N (drw (nxN x) (dp D)) (drw (nxN (nxN x)) (dp D)) τ1 = some (if lkD D (drw (nxN x) (dp D)) (drw (nxN (nxN x)) (dp D)) = true then 1 else 0) := by
        rw [m_isLink M1 y3]
        show some (if lnk (chS D (sdC D s) k).2.1 (cD (chS D (sdC D s) k).2.1) ((chS D (sdC D s) k).2.1.2 5) _ _ = true then _ else _) = _
        rw [y2.sim.lnk', y2.g.2.1, y2.g.2.2]
      have draws : ∀ nx, F_X12_chance_B89 N nx (m : Int) w v4 v5 k τ = (F_X12_isLink N (drw (nxN x) (dp D)) (drw (nxN (nxN x)) (dp D)) τ1).bind (fun q17 => if q17 = 0 then nx (v4, v5, (k : Int) + 1, τ1) else ((F_X12_of N 0 τ1).bind (fun q19 => if q19 = 30 then nx (v4, v5, (k : Int) + 1, τ1) else ((F_X12_canClaim N (drw (nxN x) (dp D)) (drw (nxN (nxN x)) (dp D)) (drw (nxN (nxN (nxN x))) 1000 + 1) τ1).bind (fun q21 => if q21 = 0 then nx (v4, v5, (k : Int) + 1, τ1) else ((F_X12_claims N (drw (nxN x) (dp D)) (drw (nxN (nxN x)) (dp D)) (drw (nxN (nxN (nxN x))) 1000 + 1) τ1).bind (fun q23 => nx (v4 + 1, v5 + (drw (nxN (nxN (nxN x))) 1000 + 1), (k : Int) + 1, q23)))))))) := fun nx => by
        have q1 : (upF τ 94 47 (nxN x)).1 94 14 = dp D := t14
        unfold F_X12_chance_B89 F_X12_chance_J183
        rw [if_neg (by omega), t14, m_draw i4 y1.1 y1.2 (by omega) (by omega), Option.bind_some]
        show (F_X12_draw N ((upF τ 94 47 (nxN x)).1 94 14) (upF τ 94 47 (nxN x))).bind _ = _
        rw [q1, m_draw (x := nxN x) upF_same nb1.1 nb1.2 (by omega) (by omega), Option.bind_some]
        show (F_X12_draw N 1000 (upF (upF τ 94 47 (nxN x)) 94 47 (nxN (nxN x)))).bind _ = _
        rw [m_draw (x := nxN (nxN x)) upF_same nb2.1 nb2.2 (by omega) (by omega), Option.bind_some]
        show (F_X12_isLink N (drw (nxN x) (dp D)) (drw (nxN (nxN x)) (dp D)) τ1).bind _ = _
        rw [ja_1 (k := drw (nxN (nxN (nxN x))) 1000) (by omega) (by omega), ja_1 (k := (k : Int)) (by omega) (by omega), ja_1 (k := v4) (by omega) (by omega), ja_eq ⟨by omega, by omega⟩]
      have St' : ∀ τ' : Sto, (∀ a z, ¬ (a = 101 ∧ 200 * (1 : Int) ≤ z ∧ z < 200 * 1 + 200) → τ'.1 a z = τ1.1 a z) → τ'.2 = τ1.2 → St1 τ' := fun τ' p1 p2 => ⟨fun a z p => (p1 a z (by omega)).trans (i6.1 a z p), fun j => by
        rw [p2]
        show (upF (upF (upF τ 94 47 (nxN x)) 94 47 (nxN (nxN x))) 94 47 (nxN (nxN (nxN x)))).2 49 j = σ3.2 49 j
        rw [upF_ne (by omega), upF_ne (by omega), upF_ne (by omega)]
        exact i6.2 j⟩
      have en := chS_step hx i2.symm
      have bad : ¬ (lkD D (drw (nxN x) (dp D)) (drw (nxN (nxN x)) (dp D)) = true ∧ dc (chS D (sdC D s) k).2.1 < 30 ∧ canE (chS D (sdC D s) k).2.1 (drw (nxN x) (dp D)) (drw (nxN (nxN x)) (dp D)) (drw (nxN (nxN (nxN x))) 1000 + 1)) → (∀ nx, F_X12_chance_B89 N nx (m : Int) w v4 v5 k τ = nx (v4, v5, (k : Int) + 1, τ1)) → ∃ q', (q'.1 = (dc (chS D (sdC D s) (k + 1)).2.1 : Int) - dc D ∧ q'.2.1 = (chS D (sdC D s) (k + 1)).2.2 ∧ q'.2.2.1 = ((k + 1 : Nat) : Int) ∧ q'.2.2.2.2 94 47 = (chS D (sdC D s) (k + 1)).1 ∧ BkM q'.2.2.2 1 (chS D (sdC D s) (k + 1)).2.1 ∧ St1 q'.2.2.2) ∧ ∀ nx, F_X12_chance_B89 N nx (m : Int) w v4 v5 k τ = nx q' := fun hn hq => by
        have ec := en.2 hn
        refine ⟨(v4, v5, (k : Int) + 1, τ1), ⟨by rw [ec]; exact i1, by rw [ec], by show (k : Int) + 1 = ((k + 1 : Nat) : Int); omega, by rw [ec]; exact upF_same, by rw [ec]; exact i5, St' τ1 (fun _ _ _ => rfl) rfl⟩, hq⟩
      by_cases q1 : lkD D (drw (nxN x) (dp D)) (drw (nxN (nxN x)) (dp D)) = true
      · by_cases q2 : dc (chS D (sdC D s) k).2.1 < 30
        · by_cases q3 : canE (chS D (sdC D s) k).2.1 (drw (nxN x) (dp D)) (drw (nxN (nxN x)) (dp D)) (drw (nxN (nxN (nxN x))) 1000 + 1)
          · have ec := en.1 ⟨q1, q2, q3⟩
            obtain ⟨τ2, g2, g3, g4, g5⟩ := m_claims (N := N) y3 (Or.inr rfl) h24 i5 q2 (drw (nxN x) (dp D)) (drw (nxN (nxN x)) (dp D)) (drw (nxN (nxN (nxN x))) 1000 + 1)
            refine ⟨(v4 + 1, v5 + (drw (nxN (nxN (nxN x))) 1000 + 1), (k : Int) + 1, τ2), ⟨?_, by rw [ec], by show (k : Int) + 1 = ((k + 1 : Nat) : Int); omega, ?_, by rw [ec]; exact g3, St' τ2 g4 g5⟩, fun nx => ?_⟩
            · rw [ec]
              show v4 + 1 = ((dc (chS D (sdC D s) k).2.1 + 1 : Nat) : Int) - dc D
              omega
            · rw [ec]
              show τ2.2 94 47 = _
              rw [g5]; exact upF_same
            · show F_X12_chance_B89 N nx (m : Int) w v4 v5 k τ = _
              rw [draws nx, lke, Option.bind_some, if_pos q1, if_neg (by decide), m_of0 M1, Option.bind_some, if_neg (by omega), m_canClaim hN y3 M1 S1 (by show lnk _ _ _ _ _ = true; rw [y2.sim.lnk', y2.g.2.1, y2.g.2.2]; exact q1), Option.bind_some, if_pos q3, if_neg (by decide), g2, Option.bind_some]
          · refine bad (fun z => q3 z.2.2) (fun nx => ?_)
            rw [draws nx, lke, Option.bind_some, if_pos q1, if_neg (by decide), m_of0 M1, Option.bind_some, if_neg (by omega), m_canClaim hN y3 M1 S1 (by show lnk _ _ _ _ _ = true; rw [y2.sim.lnk', y2.g.2.1, y2.g.2.2]; exact q1), Option.bind_some, if_neg q3, if_pos rfl]
        · refine bad (fun z => q2 z.2.1) (fun nx => ?_)
          rw [draws nx, lke, Option.bind_some, if_pos q1, if_neg (by decide), m_of0 M1, Option.bind_some, if_pos (by omega)]
      · refine bad (fun z => q1 z.1) (fun nx => ?_)
        rw [draws nx, lke, Option.bind_some, if_neg q1, if_pos rfl]) (fun q hI nx => by
      obtain ⟨v4, v5, v6, τ⟩ := q
      have i3 : v6 = (m : Int) := hI.2.2.1
      show F_X12_chance_B89 N nx (m : Int) w v4 v5 v6 τ = F_X12_chance_J189 N w v4 v5 τ
      unfold F_X12_chance_B89
      rw [i3, if_pos (Int.le_refl _)])
    rw [t7]
    obtain ⟨v4, v5, v6, τ⟩ := t
    have t1 : v4 = (dc (chS D (sdC D s) m).2.1 : Int) - dc D := t1
    have t2 : v5 = (chS D (sdC D s) m).2.2 := t2
    have t5 : BkM τ 1 (chS D (sdC D s) m).2.1 := t5
    have t6 : St1 τ := t6
    obtain ⟨y1, y2, y3, y4, y5, y6, y7⟩ := chS_ok V K h3 x0.1 x0.2 m (by omega)
    have back : ∀ (r : Int) (τ' : Sto), (∀ a z, ¬ (102 ≤ a ∧ a ≤ 110) → ¬ (a = 94 ∧ (z = 30 ∨ z = 37)) → τ'.1 a z = τ.1 a z) → (∀ j, τ'.2 49 j = τ.2 49 j) → QM σ D (some (r, upI τ' 94 24 0)) r := fun r τ' p1 p2 => QM.of V M rfl ⟨fun a j q => by
      show (upI τ' 94 24 0).1 a j = σ.1 a j
      by_cases z1 : a = 94 ∧ j = 24
      · obtain ⟨rfl, rfl⟩ := z1
        rw [up_same]; exact M.2.1.symm
      · rw [upI_ne z1, p1 _ _ (by omega) (by omega), t6.1 _ _ (by omega), f3 _ _ (by omega) (by omega)]
        show (upI σ1 94 24 1).1 a j = _
        rw [upI_ne z1, c3 _ _ (by omega), upI_ne (by omega)], fun j => by
      show τ'.2 49 j = _
      rw [p2, t6.2, f3b _ _ (by omega) (by omega)]
      show σ1.2 49 j = _
      rw [c4]
      show (upF (upI σ 94 2 0) 94 47 (sdC D s)).2 49 j = _
      rw [upF_ne (by omega)]; rfl⟩
    show QM σ D (F_X12_chance_J189 N w v4 v5 τ) _
    unfold F_X12_chance_J189 F_X12_chance_J212
    by_cases w0 : w = 0
    · rw [if_pos w0, if_pos w0, t1]
      exact back _ τ (fun _ _ _ _ => rfl) (fun _ => rfl)
    · rw [if_neg w0, if_neg w0]
      by_cases w1 : w = 1
      · rw [if_pos w1, if_pos w1, t2]
        exact back _ τ (fun _ _ _ _ => rfl) (fun _ => rfl)
      · rw [if_neg w1, if_neg w1]
        have h24 : τ.1 94 24 = 1 := by rw [t6.1 _ _ (by omega), f3 _ _ (by omega) (by omega)]; exact up_same
        have tx : ∀ a z, (a = 94 ∧ (z = 11 ∨ z = 14 ∨ z = 31 ∨ z = 32 ∨ z = 33 ∨ z = 38)) ∨ a = 97 ∨ a = 98 ∨ a = 100 → τ.1 a z = ρ.1 a z := fun a z p => by rw [t6.1 _ _ (by omega), f3 _ _ (by omega) (by omega)]
        have M1 : ModR τ (chS D (sdC D s) m).2.1 := ⟨y2.txm (Mr.1.cg (fun j p => tx 94 j (by omega)) (fun j => tx 97 j (by omega)) (fun j => tx 98 j (by omega)) (fun j _ => tx 100 j (by omega))), 1, Or.inr rfl, h24, t5⟩
        have t38 : τ.1 94 38 = -1 := by rw [tx _ _ (by omega)]; show (upI σ1 94 24 1).1 94 38 = _; rw [up_ix (by decide), c3 _ _ (by omega), up_ix (by decide)]; exact M.2.2.1
        obtain ⟨τ2, u1⟩ := m_solvesG (N := N) (σ := τ) (E := (chS D (sdC D s) m).2.1) (G := G0) (sd := pS (chS D (sdC D s) m).2.1 G0) (c := pC (chS D (sdC D s) m).2.1 (gD D) (cD D) (D.2 5) G0) (pr := pP (chS D (sdC D s) m).2.1 (cD D) (D.2 5)) (l := pL (chS D (sdC D s) m).2.1 G0) hN y3 M1 (fun p hp => by
          have v := (y3.per (p := (p : Int)) (by omega) (by omega)).1
          rw [t38]; exact (decide_eq_false (by omega)).symm) (fun k _ => ⟨rfl, rfl⟩) (p_prb y3) (p_fok y3 (by unfold FOk; rw [y2.1.2.1, y2.2 6 (by decide)]; exact V.fok) y4) R' (p_zr y3 y4) (fun _ _ => rfl) (fun i j _ _ => by rw [y2.g.1, y2.g.2.1, y2.g.2.2])
        have fu := fr_X12_solves u1
        rw [u1, Option.bind_some]
        exact back _ τ2 (fun a z p q => fu.1 a z (fun y => by unfold Wr_X12_solves at y; omega)) (fun j => fu.2 49 j (fun y => by unfold Wr_X12_solves at y; omega))
  unfold F_X12_chance rChance
  by_cases h1 : s < -1
  · rw [if_pos h1, if_neg (by omega)]; exact QM.same V M rfl
  rw [if_neg h1, m_isIn, Option.bind_some]
  by_cases h2 : 1 ≤ n ∧ n ≤ 60
  · rw [if_pos h2, if_neg (by decide), m_isIn, Option.bind_some]
    by_cases h3 : 0 ≤ w ∧ w ≤ 2
    · rw [if_pos h3, if_neg (by decide), e14]
      by_cases h4 : 1 ≤ (dp D : Int)
      · rw [if_pos h4, if_pos (show -1 ≤ s ∧ (1 ≤ n ∧ n ≤ 60) ∧ (0 ≤ w ∧ w ≤ 2) ∧ 1 ≤ dp D from ⟨by omega, h2, h3, by omega⟩), e2, inb_in (by omega)]
        have := main (by omega) h2 h3 (by omega)
        by_cases q : 0 ≤ s
        · rw [if_pos q]
          have e : sdC D s = s := by unfold sdC; rw [if_neg (by omega)]
          rw [e] at this ⊢
          exact this
        · rw [if_neg q]
          have e : sdC D s = D.2 0 2 := by unfold sdC; rw [if_pos (by omega)]
          rw [e] at this ⊢
          exact this
      · rw [if_neg h4, if_neg (by omega)]; exact QM.same V M rfl
    · rw [if_neg h3, if_pos rfl, if_neg (fun z => h3 z.2.2.1)]; exact QM.same V M rfl
  · rw [if_neg h2, if_pos rfl, if_neg (fun z => h2 z.2.1)]; exact QM.same V M rfl
end CHB
