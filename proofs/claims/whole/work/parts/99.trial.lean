/-! AS IF IT WERE OTHERWISE: another carry, another gate, another first day; a LINK's room -/
theorem Sim.kin {D D' : Dk} (h : Sim D D') {σ : Sto} {v : Nat} {g : Int} (K : KinR σ v D g) : KinR σ v D' g := by
  refine ⟨by rw [h.nsD']; exact K.1, fun i hi => ?_, fun i hi m hm => ?_⟩
  · rw [h.nsD'] at hi
    rw [h.stD']; exact K.2.1 i hi
  · rw [h.nsD'] at hi
    rw [h.1.1] at hm
    rw [h.stD', h.pct', h.1.1]; exact K.2.2 i hi m hm
noncomputable def tW (D : Dk) (g c : Int) (F : Int → Int) : Int := tE (dk0 D) g c F G0
abbrev RW (D : Dk) (g c : Int) (F : Int → Int) : Prop := REn (dk0 D) g c F G0 (mE (dk0 D) g c F G0)
/-- D with another carry, other first days -/
def dkM (D : Dk) (c : Int) (F : Int → Int) : Dk := (D.1, fun r i => if r = 5 then F i else if r = 0 ∧ i = 3 then c else D.2 r i)
theorem dkM_row {D : Dk} {c : Int} {F : Int → Int} {r : Nat} (h0 : r ≠ 0) (h5 : r ≠ 5) : (dkM D c F).2 r = D.2 r := by
  funext i
  show (if r = 5 then _ else if r = 0 ∧ i = 3 then _ else _) = _
  rw [if_neg h5, if_neg (fun z => h0 z.1)]
theorem dkM_sim (D : Dk) (c : Int) (F : Int → Int) : Sim D (dkM D c F) := ⟨⟨rfl, rfl, rfl⟩, fun r h0 h5 _ => dkM_row h0 h5, rfl, rfl, rfl⟩
theorem dkM_val {D : Dk} (V : Val D) {c : Int} {F : Int → Int} (hc : 0 ≤ c ∧ c ≤ 1) (hF : FOk D F) : Val (dkM D c F) := by
  obtain ⟨a, b, d, e, f, h⟩ := V
  have r : ∀ r, r ≠ 0 → r ≠ 5 → (dkM D c F).2 r = D.2 r := fun r h0 h5 => dkM_row h0 h5
  refine ⟨a, ⟨b.1, b.2.1, b.2.2.1, hc⟩, fun m h0 h1 => ?_, fun p h0 h1 => ?_, fun k h0 h1 => ?_, fun k h0 h1 => ?_⟩
  · rw [r 2 (by decide) (by decide), r 3 (by decide) (by decide)]; exact d m h0 h1
  · rw [r 4 (by decide) (by decide), r 6 (by decide) (by decide), r 7 (by decide) (by decide)]
    have q := hF p h0 h1
    have w := e p h0 h1
    exact ⟨w.1, ⟨q.1, q.2, w.2.1.2.2⟩, w.2.2⟩
  · rw [r 8 (by decide) (by decide), r 9 (by decide) (by decide), r 10 (by decide) (by decide), r 11 (by decide) (by decide)]; exact f k h0 h1
  · rw [r 12 (by decide) (by decide), r 13 (by decide) (by decide), r 14 (by decide) (by decide)]; exact h k h0 h1
section TRIAL
variable {N : Nat} {σ : Sto} {b : Nat} {D : Dk} {g c : Int} {F : Int → Int}
theorem x_rwc (hN : BigN N) (V : Val D) (X : XC σ b D) {v f : Nat} (hv : v = 52 ∨ v = 77) (K : KinR σ v D g) (hf : f = b + 5 ∨ f = 93) (hF : FOk D F) (hfv : ∀ p : Int, 0 ≤ p → p < dp D → σ.1 f p = F p) : ∃ σ', F_X11_reliefWithoutClaims N v c f σ = some (tW D g c F, σ') ∧ XC σ' b D ∧ RO σ σ' ∧ RW D g c F := by
  have vz := V.sz
  have hb := X.lt
  have hb3 := X.ge
  have V0 := dk0_val V
  unfold F_X11_reliefWithoutClaims F_X5_clear
  rw [Option.bind_some]
  have u : ∀ a j, ¬ (a = 73 ∧ j = 3) → (upI σ 73 3 0).1 a j = σ.1 a j := fun a j h => upI_ne h
  rw [u 0 1 (by omega), X.at]
  have B0 : BokR (upI σ 73 3 0) b (dk0 D) := (show BokR (upI σ 73 3 0) b D from X.2.2.1.cg (fun a j x y => u a j (by omega)))
  have K0 : KinR (upI σ 73 3 0) v (dk0 D) g := (dk0_sim D).kin (K.cg (fun a j x y => u a j (by omega)))
  obtain ⟨σ1, a1, a2⟩ := k_net (σ := upI σ 73 3 0) (t := 80) (v := v) (f := f) (c := c) (F := F) hN V0 hF (by omega) hb (by omega) (by omega) B0 K0 (fun p x y => (u f p (by omega)).trans (hfv p x y))
  have f1 := fr_X6_fill a1
  have f1' : ∀ a j, ¬ (81 ≤ a ∧ a ≤ 82) → σ1.1 a j = (upI σ 73 3 0).1 a j := fun a j h => f1.1 a j h
  rw [a1, Option.bind_some, (f1' 0 1 (by omega)).trans (u 0 1 (by omega)), X.at]
  have B1 : BokR σ1 b (dk0 D) := B0.cg (fun a j x y => f1' a j (by omega))
  have L1 : LedR σ1 73 (dk0 D) := ⟨(f1' _ _ (by omega)).trans up_same, fun k h0 h1 => by have h1 : k < ((0 : Nat) : Int) := h1; omega⟩
  obtain ⟨σ2, σ3, b1, b2, b3⟩ := k_solve (σ := σ1) (t := 83) (tn := 80) (l := 73) (w := 0) (G := G0) hN V0 hF (dk0_gd V hF) hb (by omega) (by omega) (by omega) (by omega) (by omega) B1 a2 L1 (fun p _ => tb_0 p)
  have f2 := fr_X1_load b1
  have f3 := fr_X1_run b2
  have e : ∀ a j, ¬ (a = 73 ∧ j = 3) → ¬ (81 ≤ a ∧ a ≤ 92) → σ3.1 a j = σ.1 a j := fun a j h1 h2 => (f3.1 a j (fun z => by unfold Wr_X1_run at z; omega)).trans ((f2.1 a j (fun z => by unfold Wr_X1_load at z; omega)).trans ((f1' a j (by omega)).trans (u a j h1)))
  rw [b1, Option.bind_some, b2, Option.bind_some, b3.2.2.2.1]
  refine ⟨σ3, rfl, X.cg (fun a j h => e a j (by omega) (by omega)) (X.2.2.2.2.1.cg (fun j => e _ _ (by omega) (by omega)) (fun j => ?_)), fun a j h => e a j (by omega) (by omega), b3.ends⟩
  exact (f3.2 49 j (fun z => by unfold Wr_X1_run at z; omega)).trans ((f2.2 49 j (fun z => by unfold Wr_X1_load at z; omega)).trans (f1.2 49 j (fun z => by unfold Wr_X6_fill at z; omega)))
theorem m_byGateOf (hN : BigN N) {D' : Dk} (V' : Val D') (V : Val D) (S : Sim D D') (M : ModR σ D') (sk : σ.1 94 38 = -1) (hF : FOk D F) (e3 : D'.2 0 3 = c) (e5 : D'.2 5 = F) : ∃ σ1, F_X12_laysAll N g 0 σ = some σ1 ∧ (∀ i : Nat, i < dp D → σ1.1 105 i = pL (dk0 D) G0 i) ∧ ∀ i j : Nat, i < dp D → j < dp D → σ1.1 106 (12 * i + j) = pC (dk0 D) g c F G0 i j := by
  obtain ⟨σ1, a1, a2, a3⟩ := m_laysAll (G := G0) (cl := 0) (D' := dk0 D') hN V' M g (fun p hp => by
    have w := (V'.per (p := p) (by omega) (by omega)).1
    rw [sk]
    exact (decide_eq_false (by omega)).symm) (Or.inr ⟨rfl, rfl⟩)
  rw [e3, e5] at a3
  rw [S.1.2.1] at a2 a3
  have d7 : D'.2 7 = D.2 7 := S.2.1 7 (by decide) (by decide) (by decide)
  refine ⟨σ1, a1, fun i hi => (a2 i hi).trans ?_, fun i j hi hj => (a3 i j hi hj).trans ?_⟩
  · show rabs (D'.2 7 i) - 0 = rabs (D.2 7 i) - 0
    rw [d7]
  · have l : lnk (dk0 D') c F = lnk (dk0 D) c F := ((dk0_sim D').lnk' c F).trans ((S.lnk' c F).trans ((dk0_sim D).lnk' c F).symm)
    have bb : bnd (dk0 D') g F = bnd (dk0 D) g F := ((dk0_sim D').bnd' g F).trans ((S.bnd' g F).trans ((dk0_sim D).bnd' g F).symm)
    unfold pC
    rw [l, bb]; rfl
theorem Prb.sim {D' : Dk} (S : Sim D D') {n : Nat} {sd : Nat → Int} {c pr : Nat → Nat → Int} (h : Prb D n sd c pr) : Prb D' n sd c pr := by
  refine ⟨by rw [S.1.2.1]; exact h.1, fun u hu => ?_, fun i j q => ?_⟩
  · rw [S.2.1 7 (by decide) (by decide) (by decide)]; exact h.2.1 u hu
  · rw [S.prc']; exact h.2.2 i j q
theorem m_rel0 (hN : BigN N) {D' : Dk} (V' : Val D') (V : Val D) (S : Sim D D') (M : ModR σ D') (hF : FOk D F) (R : RW D g c F) (x1 : ∀ i : Nat, i < dp D → σ.1 105 i = pL (dk0 D) G0 i) (x2 : ∀ i j : Nat, i < dp D → j < dp D → σ.1 106 (12 * i + j) = pC (dk0 D) g c F G0 i j) : ∃ σ', F_X12_relieves N σ = some (tW D g c F, σ') ∧ ∀ b z, ¬ (105 ≤ b ∧ b ≤ 110) → ¬ (b = 94 ∧ z = 37) → σ'.1 b z = σ.1 b z := by
  have V0 := dk0_val V
  have G := dk0_gd (g := g) (c := c) V hF
  have pb : Prb D (dp D) (pS (dk0 D) G0) (pC (dk0 D) g c F G0) (pP (dk0 D) c F) := p_prb (D := dk0 D) (g := g) (c := c) (F := F) (G := G0) V0
  unfold tW tE
  obtain ⟨σ2, b1, b2, b3, b4⟩ := m_relieves (σ := σ) (D := D') (n := dp D) (sd := pS (dk0 D) G0) (c := pC (dk0 D) g c F G0) (pr := pP (dk0 D) c F) (l := pL (dk0 D) G0) (m := mE (dk0 D) g c F G0) hN V' M (pb.sim S) (p_fok (D := dk0 D) (G := G0) V0 hF G) R (p_zr (D := dk0 D) (G := G0) V0 G) x1 x2
  exact ⟨σ2, b1, b4⟩
/-! another carry -/
noncomputable def rByCarry (D : Dk) (c : Int) : Int := if 0 ≤ c ∧ c ≤ 1 then tW D (gD D) c (D.2 5) else -1
theorem x_byCarry (hN : BigN N) (V : Val D) (X : XC σ b D) (c : Int) : QX σ b D (F_X11_byCarry N c σ) (rByCarry D c) ∧ (0 ≤ c ∧ c ≤ 1 → RW D (gD D) c (D.2 5)) := by
  unfold F_X11_byCarry rByCarry
  by_cases h1 : c < 0
  · rw [if_pos h1, if_neg (by omega)]; exact ⟨QX.same X rfl, fun z => by omega⟩
  · rw [if_neg h1]
    by_cases h2 : c ≤ 1
    · obtain ⟨σ1, a1, a2, a3, a4, a5, a6⟩ := k_refreshNet hN V X
      obtain ⟨σ2, b1, b2, b3, b4⟩ := x_rwc (σ := σ1) (c := c) (f := b + 5) hN V a2 (Or.inl rfl) a5.1 (Or.inl rfl) V.fok (fun p h0 h1 => (a2.2.2.1.2.2.1 p h0 h1).2.1)
      rw [if_pos h2, if_pos (show 0 ≤ c ∧ c ≤ 1 by omega), a1, Option.bind_some, a2.at, b1]
      exact ⟨⟨σ2, rfl, b2, a3.tr b3⟩, fun _ => b4⟩
    · rw [if_neg h2, if_neg (by omega)]; exact ⟨QX.same X rfl, fun z => by omega⟩
theorem m_byCarry (hN : BigN N) (V : Val D) (M : MK σ D) (c : Int) (R : 0 ≤ c ∧ c ≤ 1 → RW D (gD D) c (D.2 5)) : QM σ D (F_X12_byCarry N c σ) (rByCarry D c) := by
  obtain ⟨M', m'⟩ := M.up2 V 0
  unfold F_X12_byCarry rByCarry
  rw [m_isIn, Option.bind_some]
  by_cases h : 0 ≤ c ∧ c ≤ 1
  · have V' : Val (dkM D c (D.2 5)) := dkM_val V h V.fok
    have Mc : ModR (upI (upI σ 94 2 0) 94 33 c) (dkM D c (D.2 5)) := by
      obtain ⟨⟨t1, t2, t3⟩, k0, hk, k1, k2⟩ := M'.1
      refine ⟨⟨⟨?_, ?_, ?_, ?_, ?_, up_same⟩, fun m x y => ?_, fun p x y => ?_⟩, k0, hk, ?_, ?_⟩
      · rw [up_ix (by omega)]; exact t1.1
      · rw [up_ix (by omega)]; exact t1.2.1
      · rw [up_pl (by decide)]; exact t1.2.2.1
      · rw [up_pl (by decide)]; exact t1.2.2.2.1
      · rw [up_pl (by decide)]; exact t1.2.2.2.2.1
      · rw [up_pl (by decide), up_pl (by decide), up_pl (by decide)]; exact t2 m x y
      · have u98 : ∀ j, (upI (upI σ 94 2 0) 94 33 c).1 98 j = (upI σ 94 2 0).1 98 j := fun j => up_pl (by decide)
        have u31 : (upI (upI σ 94 2 0) 94 33 c).1 94 31 = (upI σ 94 2 0).1 94 31 := up_ix (by omega)
        have u32 : (upI (upI σ 94 2 0) 94 33 c).1 94 32 = (upI σ 94 2 0).1 94 32 := up_ix (by omega)
        rw [u98, u98, u98, u31, u32]; exact t3 p x y
      · rw [up_ix (by omega)]; exact k1
      · exact BkM.cg (D := D) k2 (fun j _ _ => up_pl (by decide)) V
    have e0 : (upI (upI σ 94 2 0) 94 33 c).1 100 0 = gD D := (up_pl (by decide)).trans M'.1.1.1.2.2.1
    obtain ⟨σ1, a1, a2, a3⟩ := m_byGateOf (g := gD D) (c := c) (F := D.2 5) hN V' V (dkM_sim D c (D.2 5)) Mc ((up_ix (by omega)).trans M'.2.2.1) V.fok rfl rfl
    have f1 := fr_X12_laysAll a1
    have f1' : ∀ a j, ¬ ((a = 94 ∧ j = 30) ∨ (102 ≤ a ∧ a ≤ 106)) → σ1.1 a j = (upI (upI σ 94 2 0) 94 33 c).1 a j := fun a j z => f1.1 a j z
    have M1 : ModR σ1 (dkM D c (D.2 5)) := Mc.fr V' (fun a j z => f1' a j (by omega))
    obtain ⟨σ2, b1, b2⟩ := m_rel0 (σ := σ1) (g := gD D) (c := c) (F := D.2 5) hN V' V (dkM_sim D c (D.2 5)) M1 V.fok (R h) a2 a3
    have f2 := fr_X12_relieves b1
    have e : ∀ a j, ¬ ((a = 94 ∧ (j = 30 ∨ j = 37)) ∨ (102 ≤ a ∧ a ≤ 110)) → σ2.1 a j = (upI (upI σ 94 2 0) 94 33 c).1 a j := fun a j z => (b2 a j (by omega) (by omega)).trans (f1' a j (by omega))
    have e3 : σ2.1 100 3 = cD D := (e _ _ (by omega)).trans ((up_pl (by decide)).trans M'.2.2.2.2)
    have mo : MO σ (upI σ2 94 33 (cD D)) := ⟨fun a j z => by
      by_cases q : a = 94 ∧ j = 33
      · rw [q.1, q.2, up_same]; exact M.1.1.1.2.2.2.2.2.symm
      · rw [upI_ne q, e a j (by omega), upI_ne q, upI_ne (by omega)], fun j => (f2.2 49 j (fun z => by unfold Wr_X12_relieves at z; omega)).trans (f1.2 49 j (fun z => by unfold Wr_X12_laysAll at z; omega))⟩
    unfold F_X12_byGateOf
    rw [if_pos h, if_neg (by decide), if_pos h, inb_in (by omega), e0, a1, Option.bind_some, b1, Option.bind_some, Option.bind_some, inb_in (by omega), e3]
    exact ⟨_, rfl, M.cg V mo, mo⟩
  · rw [if_neg h, if_pos rfl, if_neg h]; exact QM.same V M rfl
/-! another gate -/
noncomputable def rByGate (D : Dk) (g : Int) : Int := if 1 ≤ g ∧ g ≤ 100 then tW D g (cD D) (D.2 5) else -1
theorem x_reliefByGate (hN : BigN N) (V : Val D) (X : XC σ b D) (g : Int) : ∃ σ', F_X11_reliefByGate N g σ = some (tW D g (cD D) (D.2 5), σ') ∧ XC σ' b D ∧ RO σ σ' ∧ RW D g (cD D) (D.2 5) := by
  have hb := X.lt
  have hb3 := X.ge
  obtain ⟨σ1, a1, a2, a3⟩ := k_kin (v := 77) hN V X.lt (by omega) g X.2.2.1 X.2.2.2.2.1
  have f1 := fr_X4_fill a1
  have f1' : ∀ a j, ¬ ((a = 77 ∧ j = 2) ∨ (78 ≤ a ∧ a ≤ 79) ∨ (a = 46 ∧ j = 5) ∨ (47 ≤ a ∧ a ≤ 50)) → σ1.1 a j = σ.1 a j := fun a j h => f1.1 a j h
  have X1 : XC σ1 b D := X.cg (fun a j h => f1' a j (by omega)) a3
  obtain ⟨σ2, b1, b2, b3, b4⟩ := x_rwc (σ := σ1) (c := cD D) (f := b + 5) hN V X1 (Or.inr rfl) a2 (Or.inl rfl) V.fok (fun p h0 h1 => (X1.2.2.1.2.2.1 p h0 h1).2.1)
  unfold F_X11_reliefByGate
  rw [X.at, a1, Option.bind_some, X1.at, X1.at, X1.2.2.1.1.2.2.2.2.1, b1]
  exact ⟨σ2, rfl, b2, RO.tr (fun a j h => f1' a j (by omega)) b3, b4⟩
theorem x_byGate (hN : BigN N) (V : Val D) (X : XC σ b D) (g : Int) : QX σ b D (F_X11_byGate N g σ) (rByGate D g) ∧ RW D g (cD D) (D.2 5) := by
  obtain ⟨σ1, a1, a2, a3, a4⟩ := x_reliefByGate hN V X g
  refine ⟨?_, a4⟩
  unfold F_X11_byGate F_X11_byGate_J11 rByGate
  by_cases h1 : g < 1
  · rw [if_pos h1, if_neg (by omega)]; exact QX.same X rfl
  · rw [if_neg h1]
    by_cases h2 : g ≤ 100
    · rw [if_pos h2, if_pos (show 1 ≤ g ∧ g ≤ 100 by omega), a1]; exact ⟨σ1, rfl, a2, a3⟩
    · rw [if_neg h2, if_neg (by omega)]; exact QX.same X rfl
theorem Sim.rf (D : Dk) : Sim D D := ⟨⟨rfl, rfl, rfl⟩, fun _ _ _ _ => rfl, rfl, rfl, rfl⟩
theorem m_gate (hN : BigN N) (V : Val D) (M : MK σ D) (g : Int) (R : RW D g (cD D) (D.2 5)) : QM σ D (F_X12_byGateOf N g σ) (tW D g (cD D) (D.2 5)) := by
  obtain ⟨σ1, a1, a2, a3⟩ := m_byGateOf (g := g) (c := cD D) (F := D.2 5) hN V V (Sim.rf D) M.1 M.2.2.1 V.fok rfl rfl
  have f1 := fr_X12_laysAll a1
  have m1 : MO σ σ1 := ⟨fun a j h => f1.1 a j (fun z => by unfold Wr_X12_laysAll at z; omega), fun j => f1.2 49 j (fun z => by unfold Wr_X12_laysAll at z; omega)⟩
  have M1 := M.cg V m1
  obtain ⟨σ2, b1, b2⟩ := m_rel0 (σ := σ1) (g := g) (c := cD D) (F := D.2 5) hN V V (Sim.rf D) M1.1 V.fok R a2 a3
  have f2 := fr_X12_relieves b1
  have m2 : MO σ1 σ2 := ⟨fun a j h => b2 a j (by omega) (by omega), fun j => f2.2 49 j (fun z => by unfold Wr_X12_relieves at z; omega)⟩
  unfold F_X12_byGateOf
  rw [a1, Option.bind_some, b1, Option.bind_some]
  exact ⟨σ2, rfl, M1.cg V m2, m1.tr m2⟩
theorem m_byGate (hN : BigN N) (V : Val D) (M : MK σ D) (g : Int) (R : RW D g (cD D) (D.2 5)) : QM σ D (F_X12_byGate N g σ) (rByGate D g) := by
  obtain ⟨M', m'⟩ := M.up2 V 0
  unfold F_X12_byGate rByGate
  rw [m_isIn, Option.bind_some]
  by_cases h : 1 ≤ g ∧ g ≤ 100
  · obtain ⟨σ1, a1, a2, a3⟩ := m_gate hN V M' g R
    rw [if_pos h, if_neg (by decide), if_pos h, a1]
    exact ⟨σ1, rfl, a2, m'.tr a3⟩
  · rw [if_neg h, if_pos rfl, if_neg h]; exact QM.same V M rfl
/-! another first day -/
def fM (D : Dk) (p d : Int) : Int → Int := fun q => if q = p then d else D.2 5 q
theorem fM_ok (V : Val D) {p d : Int} (h0 : 0 ≤ d) (h1 : d ≤ D.2 6 p) : FOk D (fM D p d) := fun q x y => by
  unfold fM
  by_cases e : q = p
  · rw [if_pos e, e]; exact ⟨h0, h1⟩
  · rw [if_neg e]; exact V.fok q x y
def ovB (D : Dk) (p d : Int) : Bool := anyB (fun k => decide (k ≠ p ∧ D.2 4 k = D.2 4 p ∧ D.2 5 k ≤ D.2 6 p ∧ d ≤ D.2 6 k)) (dp D)
noncomputable def rIfFirst (D : Dk) (p d : Int) : Int := if isP D p ∧ 0 ≤ d ∧ d ≤ D.2 6 p then (if ovB D p d = true then -2 else tW D (gD D) (cD D) (fM D p d)) else -1
theorem x_ifFirst (hN : BigN N) (V : Val D) (X : XC σ b D) (p d : Int) : QX σ b D (F_X11_ifFirst N p d σ) (rIfFirst D p d) ∧ (isP D p ∧ 0 ≤ d ∧ d ≤ D.2 6 p → ovB D p d = false → RW D (gD D) (cD D) (fM D p d)) := by
  have vz := V.sz
  have hb := X.lt
  have hb3 := X.ge
  unfold F_X11_ifFirst rIfFirst
  rw [X.at, k_hasPeriod X.2.2.1, Option.bind_some]
  by_cases h : isP D p
  · obtain ⟨e4, e5, e6, e7⟩ := X.2.2.1.2.2.1 p h.1 h.2
    rw [if_pos h, if_neg (by decide)]
    by_cases h1 : d < 0
    · rw [if_pos h1, if_neg (by omega)]; exact ⟨QX.same X rfl, fun z => by omega⟩
    · rw [if_neg h1, X.at, inb_in (by omega), e6]
      by_cases h2 : d ≤ D.2 6 p
      · rw [if_pos h2, if_pos (show isP D p ∧ 0 ≤ d ∧ d ≤ D.2 6 p from ⟨h, by omega, h2⟩), X.at, X.at, X.at, e4, e6, k_overlaps hN V X.2.2.1, Option.bind_some]
        have eo : anyB (fun k => decide (k ≠ p ∧ D.2 4 k = D.2 4 p ∧ D.2 5 k ≤ D.2 6 p ∧ d ≤ D.2 6 k)) (dp D) = ovB D p d := rfl
        rw [eo]
        by_cases o : ovB D p d = true
        · rw [if_pos o, if_neg (by decide), if_pos o]; exact ⟨QX.same X rfl, fun _ z => by rw [o] at z; cases z⟩
        · rw [if_neg o, if_pos rfl, if_neg o, X.at, grd_in (by omega)]
          have g : ∀ a j, a ≠ 93 → (upI (cpI σ (b + 5) 0 93 0 12) 93 p d).1 a j = σ.1 a j := fun a j q => by
            rw [up_pl q]
            show (if a = 93 ∧ _ then _ else _) = _
            rw [if_neg (fun z => q z.1)]
          have X1 : XC (upI (cpI σ (b + 5) 0 93 0 12) 93 p d) b D := X.cg (fun a j q => g a j (by omega)) (X.2.2.2.2.1.cg (fun j => g _ _ (by decide)) (fun j => rfl))
          have r93 : ∀ q : Int, 0 ≤ q → q < dp D → (upI (cpI σ (b + 5) 0 93 0 12) 93 p d).1 93 q = fM D p d q := fun q x y => by
            unfold fM
            by_cases z : q = p
            · rw [if_pos z, z, up_same]
            · rw [if_neg z, up_ix z]
              show (if 93 = 93 ∧ (0 : Int) ≤ q ∧ q < 0 + 12 then σ.1 (b + 5) (0 + (q - 0)) else _) = _
              rw [if_pos (by omega), show (0 : Int) + (q - 0) = q by omega]
              exact (X.2.2.1.2.2.1 q x y).2.1
          obtain ⟨σ1, a1, a2, a3, a4, a5, a6⟩ := k_refreshNet hN V X1
          have r93' : ∀ q : Int, 0 ≤ q → q < dp D → σ1.1 93 q = fM D p d q := fun q x y => (a6 93 q (by omega)).trans (r93 q x y)
          obtain ⟨σ2, b1, b2, b3, b4⟩ := x_rwc (σ := σ1) (c := cD D) (f := 93) (F := fM D p d) hN V a2 (Or.inl rfl) a5.1 (Or.inr rfl) (fM_ok V (by omega) h2) r93'
          rw [a1, Option.bind_some, a2.at, a2.2.2.1.1.2.2.2.2.1, b1]
          exact ⟨⟨σ2, rfl, b2, RO.tr (fun a j q => g a j (by omega)) (a3.tr b3)⟩, fun _ _ => b4⟩
      · rw [if_neg h2, if_neg (by omega)]; exact ⟨QX.same X rfl, fun z => by omega⟩
  · rw [if_neg h, if_pos rfl, if_neg (fun z => h z.1)]; exact ⟨QX.same X rfl, fun z => absurd z.1 h⟩
theorem m_ifFirst (hN : BigN N) (V : Val D) (M : MK σ D) (p d : Int) (R : isP D p ∧ 0 ≤ d ∧ d ≤ D.2 6 p → ovB D p d = false → RW D (gD D) (cD D) (fM D p d)) : QM σ D (F_X12_ifFirst N p d σ) (rIfFirst D p d) := by
  have vz := V.sz
  obtain ⟨M', m'⟩ := M.up2 V 0
  unfold F_X12_ifFirst rIfFirst
  rw [m_isPeriod M'.1, Option.bind_some]
  by_cases h : isP D p
  · rw [if_pos h, if_neg (by decide), m_lastDay M'.1 V h.1 h.2, Option.bind_some, m_isIn, Option.bind_some]
    by_cases h2 : 0 ≤ d ∧ d ≤ D.2 6 p
    · rw [if_pos h2, if_neg (by decide), if_pos ⟨h, h2⟩]
      have lp : loopK (fun q nx30 => F_X12_ifFirst_B30 N nx30 p d q (upI σ 94 2 0)) N 0 = if ovB D p d = true then some (-2, upI σ 94 2 0) else F_X12_ifFirst_J87 N p d (upI σ 94 2 0) := by
        refine loop_any (b := fun q nx30 => F_X12_ifFirst_B30 N nx30 p d q (upI σ 94 2 0)) (f := fun k => decide (k ≠ p ∧ D.2 4 k = D.2 4 p ∧ D.2 5 k ≤ D.2 6 p ∧ d ≤ D.2 6 k)) (m := dp D) (bigN hN) (fun k nx hk => ?_) (fun nx => ?_)
        · show F_X12_ifFirst_B30 N nx p d k (upI σ 94 2 0) = _
          unfold F_X12_ifFirst_B30 F_X12_ifFirst_J81
          rw [M'.1.1.1.2.1, if_neg (by omega), m_memberOf M'.1 V (by omega) (by omega), Option.bind_some, m_memberOf M'.1 V h.1 h.2, Option.bind_some, m_firstDay M'.1 V (by omega) (by omega), Option.bind_some, m_lastDay M'.1 V h.1 h.2, Option.bind_some, m_lastDay M'.1 V (by omega) (by omega), Option.bind_some, ja_1 (by omega) (by omega)]
          by_cases q1 : (k : Int) = p
          · rw [if_pos q1, if_neg (by simp [q1])]
          · rw [if_neg q1]
            by_cases q2 : D.2 4 k = D.2 4 p
            · rw [if_pos q2]
              by_cases q3 : D.2 6 p < D.2 5 k
              · rw [if_pos q3, if_neg (by simp; omega)]
              · rw [if_neg q3]
                by_cases q4 : D.2 6 k < d
                · rw [if_pos q4, if_neg (by simp; omega)]
                · rw [if_neg q4, if_pos (by simp; exact ⟨q1, q2, by omega, by omega⟩)]
            · rw [if_neg q2, if_neg (by simp [q2])]
        · show F_X12_ifFirst_B30 N nx p d (dp D : Int) (upI σ 94 2 0) = _
          unfold F_X12_ifFirst_B30
          rw [M'.1.1.1.2.1, if_pos (Int.le_refl _)]
      rw [lp]
      by_cases o : ovB D p d = true
      · rw [if_pos o, if_pos o]; exact QM.same V M rfl
      · have o' : ovB D p d = false := by
          cases z : ovB D p d
          · rfl
          · exact absurd z o
        have hF := fM_ok V h2.1 h2.2
        have V' : Val (dkM D (cD D) (fM D p d)) := dkM_val V V.sc.2.2.2 hF
        have S' := dkM_sim D (cD D) (fM D p d)
        have mo0 : ∀ a j, ¬ (a = 94 ∧ (j = 2 ∨ j = 31 ∨ j = 32)) → (upI (upI (upI σ 94 2 0) 94 31 p) 94 32 d).1 a j = σ.1 a j := fun a j z => by rw [upI_ne (by omega), upI_ne (by omega), upI_ne (by omega)]
        have Mc : ModR (upI (upI (upI σ 94 2 0) 94 31 p) 94 32 d) (dkM D (cD D) (fM D p d)) := by
          obtain ⟨⟨t1, t2, t3⟩, k0, hk, k1, k2⟩ := M.1
          have m31 := M.2.2.2.1
          refine ⟨⟨⟨?_, ?_, ?_, ?_, ?_, ?_⟩, fun m x y => ?_, fun q x y => ?_⟩, k0, hk, ?_, ?_⟩
          · rw [mo0 _ _ (by omega)]; exact t1.1
          · rw [mo0 _ _ (by omega)]; exact t1.2.1
          · rw [mo0 _ _ (by omega)]; exact t1.2.2.1
          · rw [mo0 _ _ (by omega)]; exact t1.2.2.2.1
          · rw [mo0 _ _ (by omega)]; exact t1.2.2.2.2.1
          · rw [mo0 _ _ (by omega)]; exact t1.2.2.2.2.2
          · rw [mo0 _ _ (by omega), mo0 _ _ (by omega), mo0 _ _ (by omega)]; exact t2 m x y
          · have w := t3 q x y
            rw [m31, if_neg (by omega)] at w
            rw [mo0 98 _ (by omega), mo0 98 _ (by omega), mo0 98 _ (by omega), up_same, up_ix (b := 31) (by omega), up_same]
            refine ⟨w.1, ?_, w.2.2⟩
            show _ = fM D p d q
            unfold fM
            by_cases z : q = p
            · rw [if_pos z, if_pos z]
            · rw [if_neg z, if_neg z]; exact w.2.1
          · rw [mo0 _ _ (by omega)]; exact k1
          · exact BkM.cg (D := D) k2 (fun j _ _ => mo0 _ _ (by omega)) V
        obtain ⟨σ1, a1, a2, a3⟩ := m_byGateOf (g := gD D) (c := cD D) (F := fM D p d) hN V' V S' Mc ((mo0 _ _ (by omega)).trans M.2.2.1) hF rfl rfl
        have f1 := fr_X12_laysAll a1
        have mo1 : MO σ (upI σ1 94 31 (-1)) := ⟨fun a j z => by
          by_cases q : a = 94 ∧ j = 31
          · rw [q.1, q.2, up_same]; exact M.2.2.2.1.symm
          · rw [upI_ne q, f1.1 a j (fun y => by unfold Wr_X12_laysAll at y; omega), mo0 a j (by omega)], fun j => f1.2 49 j (fun y => by unfold Wr_X12_laysAll at y; omega)⟩
        have M1 := M.cg V mo1
        obtain ⟨σ2, b1, b2⟩ := m_rel0 (σ := upI σ1 94 31 (-1)) (g := gD D) (c := cD D) (F := fM D p d) hN V V (Sim.rf D) M1.1 hF (R ⟨h, h2⟩ o') (fun i hi => (up_pl (by decide)).trans (a2 i hi)) (fun i j hi hj => (up_pl (by decide)).trans (a3 i j hi hj))
        have f2 := fr_X12_relieves b1
        have m2 : MO (upI σ1 94 31 (-1)) σ2 := ⟨fun a j z => b2 a j (by omega) (by omega), fun j => f2.2 49 j (fun z => by unfold Wr_X12_relieves at z; omega)⟩
        unfold F_X12_ifFirst_J87
        rw [if_neg o, if_neg o, inb_in (by omega), (mo0 100 0 (by omega)).trans M.1.1.1.2.2.1, a1, Option.bind_some, b1]
        exact ⟨σ2, rfl, M1.cg V m2, mo1.tr m2⟩
    · rw [if_neg h2, if_pos rfl, if_neg (fun z => h2 z.2)]; exact QM.same V M rfl
  · rw [if_neg h, if_pos rfl, if_neg (fun z => h z.1)]; exact QM.same V M rfl
end TRIAL
