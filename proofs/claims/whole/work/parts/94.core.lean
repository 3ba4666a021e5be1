/-! THE TWO SIDES at rest: what the class holds of D, what the reference holds of D -/
theorem asB_in {α : Type} {b : Nat} {f : Nat → Option α} (h : b = 3 ∨ b = 16) : asB (b : Int) f = f b := by
  have k : knd ((b : Int)).toNat = (10, 14) := by rcases h with rfl | rfl <;> decide
  unfold asB
  rw [if_pos k, Int.toNat_natCast]
theorem sumTo_zero {f : Int → Int} : ∀ {n : Nat}, (∀ k : Nat, k < n → f k = 0) → sumTo f n = 0 := by
  intro n
  induction n with
  | zero => intro _; rfl
  | succ n ih => intro h; show sumTo f n + f n = 0; rw [ih (fun k hk => h k (by omega)), h n (by omega)]; rfl
/-- a run of the flow ends -/
def REn (D : Dk) (g c : Int) (F : Int → Int) (G : Int → Bool) (m : Nat) : Prop := REnd (dp D) (pS D G) (pC D g c F G) (pP D c F) (fun _ _ => 0, pL D G) m
noncomputable def mE (D : Dk) (g c : Int) (F : Int → Int) (G : Int → Bool) : Nat := Classical.epsilon (REn D g c F G)
theorem mE_eq {D : Dk} {g c : Int} {F : Int → Int} {G : Int → Bool} {m : Nat} (h : REn D g c F G m) : mE D g c F G = m := REnd.uniq (Classical.epsilon_spec (p := REn D g c F G) ⟨m, h⟩) h
/-- RELIEF and what is left, in the end; how much in all -/
noncomputable def fE (D : Dk) (g c : Int) (F : Int → Int) (G : Int → Bool) : St := sq (dp D) (pS D G) (pC D g c F G) (pP D c F) (fun _ _ => 0, pL D G) (mE D g c F G)
noncomputable def tE (D : Dk) (g c : Int) (F : Int → Int) (G : Int → Bool) : Int := tt (dp D) (pS D G) (pC D g c F G) (pP D c F) (fun _ _ => 0, pL D G) (mE D g c F G)
def RunE (σ : Sto) (t : Nat) (D : Dk) (g c : Int) (F : Int → Int) (G : Int → Bool) : Prop := RunX σ t (dp D) (pS D G) (pC D g c F G) (pP D c F) (fun _ _ => 0, pL D G) (mE D g c F G)
section CORE
variable {N : Nat} {σ : Sto} {D : Dk} {g c : Int} {F : Int → Int} {G : Int → Bool}
/-- loaded: the class -/
theorem k_loaded (hN : BigN N) (V : Val D) (hF : FOk D F) (K : Gd D g c F) {t b tn l : Nat} {w : Int} (hb : b ≤ 32) (ht : 58 ≤ t) (htn : 33 ≤ tn) (ht2 : tn + 2 < t ∨ t + 13 < tn) (hl : 29 ≤ l) (hl2 : l + 3 < t ∨ t + 13 < l) (B : BokR σ b D) (X : NetR σ tn D g c F) (L : LedR σ l D) (hG : ∀ p : Nat, p < dp D → tb w p = G p) : ∃ σ1, F_X1_load N t b tn l w σ = some σ1 ∧ σ1.1 t 11 = dp D ∧ (∀ i : Nat, i < dp D → σ1.1 (t + 1) i = pS D G i ∧ σ1.1 (t + 2) i = pL D G i) ∧ ∀ i j : Nat, i < dp D → j < dp D → (pS D G i < 0 → 0 < pS D G j → σ1.1 (t + 3) (12 * i + j) = pC D g c F G i j) ∧ σ1.1 (t + 4) (12 * i + j) = pP D c F i j := by
  obtain ⟨τ, a1, a2, a3, a4, a5⟩ := k_load1 hN V hF hb ht htn ht2 hl hl2 B X L hG
  obtain ⟨σ1, b1, b2, b3, b4⟩ := k_load2 hN V hF K ht hl2 a3 hG (fun u hu => (a4 u hu).2) (fun i j hi hj => (a5 i j hi hj).1)
  have hL : ∀ i : Nat, i < dp D → σ1.1 (t + 2) i = pL D G i := fun i hi => by
    rw [b3 i hi]
    unfold ldB pL
    by_cases q : G i = true
    · rw [if_pos q, if_pos q]
      have z : sumTo (tkF D G i) (dc D) = 0 := sumTo_zero (fun k hk => by
        unfold tkF
        rw [if_neg (fun y => by
          rcases y with ⟨y1 | y1, y2, y3⟩
          · rw [y1, q] at y2; cases y2
          · rw [y1, q] at y3; cases y3)])
      rw [z]; rfl
    · rw [if_neg q, if_neg q]; rfl
  have hC : ∀ i j : Nat, i < dp D → j < dp D → pS D G i < 0 → 0 < pS D G j → σ1.1 (t + 3) (12 * i + j) = pC D g c F G i j := fun i j hi hj h1 h2 => by
    rw [b4 i j hi hj]
    have gi : G i = false := by
      unfold pS at h1
      cases h : G i
      · rfl
      · rw [if_pos h] at h1; omega
    have gj : G j = false := by
      unfold pS at h2
      cases h : G j
      · rfl
      · rw [if_pos h] at h2; omega
    have e : sumTo (toG D G i j) (dc D) = takOn D i j := sumTo_congr (fun k hk => by
      unfold toG tonF
      by_cases q : D.2 12 k = i ∧ D.2 13 k = j
      · rw [if_pos ⟨q.1, q.2, gi, gj⟩, if_pos q]
      · rw [if_neg (fun z => q ⟨z.1, z.2.1⟩), if_neg q])
    unfold ldC pC
    rw [e]
    by_cases q : lnk D c F i j = true
    · rw [if_pos q, if_pos ⟨q, gi, gj⟩]
    · rw [if_neg q, if_neg (fun z => q z.1)]
      have : takOn D i j = 0 := sumTo_zero (fun k hk => by
        unfold tonF
        rw [if_neg (fun y => q (by
          have := K.1 k hk
          rw [y.1, y.2] at this; exact this))])
      rw [this]; rfl
  exact ⟨σ1, a1.trans b1, (b2 _ _ (by omega) (by omega)).trans a2, fun i hi => ⟨(b2 _ _ (by omega) (by omega)).trans (a4 i hi).1, hL i hi⟩, fun i j hi hj => ⟨hC i j hi hj, (b2 _ _ (by omega) (by omega)).trans (a5 i j hi hj).2⟩⟩
/-- load and run: the class -/
theorem k_solve (hN : BigN N) (V : Val D) (hF : FOk D F) (K : Gd D g c F) {t b tn l : Nat} {w : Int} (hb : b ≤ 32) (ht : 58 ≤ t) (htn : 33 ≤ tn) (ht2 : tn + 2 < t ∨ t + 13 < tn) (hl : 29 ≤ l) (hl2 : l + 3 < t ∨ t + 13 < l) (B : BokR σ b D) (X : NetR σ tn D g c F) (L : LedR σ l D) (hG : ∀ p : Nat, p < dp D → tb w p = G p) : ∃ σ1 σ2, F_X1_load N t b tn l w σ = some σ1 ∧ F_X1_run N t σ1 = some σ2 ∧ RunE σ2 t D g c F G := by
  obtain ⟨σ1, a1, a2, a3, a4⟩ := k_loaded hN V hF K hb ht htn ht2 hl hl2 B X L hG
  obtain ⟨m, σ2, c1, c2⟩ := k_run (σ := σ1) (t := t) hN (p_fok (G := G) V hF K) (p_sok (G := G) V hF K) a2 a3 a4
  refine ⟨σ1, σ2, a1, c1, ?_⟩
  have e := mE_eq (D := D) (g := g) (c := c) (F := F) (G := G) c2.1
  unfold RunE
  rw [e]; exact c2
theorem RunE.ends {t : Nat} (h : RunE σ t D g c F G) : REn D g c F G (mE D g c F G) := h.1
end CORE
/-! the class at rest -/
abbrev gD (D : Dk) : Int := D.2 0 0
abbrev cD (D : Dk) : Int := D.2 0 3
def NetF (σ : Sto) (D : Dk) : Prop := KinR σ 52 D (gD D) ∧ NetR σ 55 D (gD D) (cD D) (D.2 5)
def XC (σ : Sto) (b : Nat) (D : Dk) : Prop := (b = 3 ∨ b = 16) ∧ σ.1 0 1 = b ∧ BokR σ b D ∧ LedR σ 29 D ∧ LowZ σ ∧ (σ.1 0 16 = 0 ∨ (σ.1 0 16 = 1 ∧ NetF σ D)) ∧ (σ.1 0 17 = 0 ∨ (σ.1 0 17 = 1 ∧ σ.1 0 16 = 1 ∧ RunE σ 58 D (gD D) (cD D) (D.2 5) G0))
/-- what a question leaves alone -/
def RO (σ σ' : Sto) : Prop := ∀ a j, (a ≤ 45 ∧ ¬ (a = 0 ∧ (j = 16 ∨ j = 17))) ∨ 94 ≤ a → σ'.1 a j = σ.1 a j
theorem RO.rf {σ : Sto} : RO σ σ := fun _ _ _ => rfl
theorem RO.tr {σ σ1 σ2 : Sto} (h1 : RO σ σ1) (h2 : RO σ1 σ2) : RO σ σ2 := fun a j h => (h2 a j h).trans (h1 a j h)
theorem XC.lt {σ : Sto} {b : Nat} {D : Dk} (h : XC σ b D) : b ≤ 32 := by rcases h.1 with e | e <;> omega
theorem XC.ge {σ : Sto} {b : Nat} {D : Dk} (h : XC σ b D) : 3 ≤ b := by rcases h.1 with e | e <;> omega
theorem XC.at {σ : Sto} {b : Nat} {D : Dk} (h : XC σ b D) {α : Type} {f : Nat → Option α} : asB (σ.1 0 1) f = f b := by rw [h.2.1]; exact asB_in h.1
/-- through a call that leaves books, ledger and the two caches alone -/
theorem XC.cg {σ σ' : Sto} {b : Nat} {D : Dk} (h : XC σ b D) (e : ∀ a j, a ≤ 45 ∨ (52 ≤ a ∧ a ≤ 67) → σ'.1 a j = σ.1 a j) (Z : LowZ σ') : XC σ' b D := by
  obtain ⟨h1, h2, h3, h4, h5, h6, h7⟩ := h
  have hb : b ≤ 32 := by omega
  refine ⟨h1, by rw [e _ _ (by omega)]; exact h2, h3.cg (fun a j x y => e a j (by omega)), h4.cg (fun a j x y => e a j (by omega)), Z, ?_, ?_⟩
  · rw [e 0 16 (by omega)]
    rcases h6 with q | ⟨q, r⟩
    · exact Or.inl q
    · exact Or.inr ⟨q, r.1.cg (fun a j x y => e a j (by omega)), r.2.cg (fun a j x => e a j (by omega))⟩
  · rw [e 0 16 (by omega), e 0 17 (by omega)]
    rcases h7 with q | ⟨q, q2, r⟩
    · exact Or.inl q
    · exact Or.inr ⟨q, q2, RunX.cg r (fun a j x y => e a j (by omega))⟩
section REST
variable {N : Nat} {σ : Sto} {b : Nat} {D : Dk}
theorem k_refreshNet (hN : BigN N) (V : Val D) (X : XC σ b D) : ∃ σ', F_X11_refreshNet N σ = some σ' ∧ XC σ' b D ∧ RO σ σ' ∧ σ'.1 0 16 = 1 ∧ NetF σ' D ∧ ∀ a j, (58 ≤ a ∧ a ≤ 93) ∨ (a = 0 ∧ j = 17) → σ'.1 a j = σ.1 a j := by
  have hb := X.lt
  have hb3 := X.ge
  unfold F_X11_refreshNet
  rcases X.2.2.2.2.2.1 with q | ⟨q, r⟩
  · rw [if_pos q, X.at, X.at, X.2.2.1.1.2.2.1]
    obtain ⟨σ1, a1, a2, a3⟩ := k_kin (v := 52) hN V hb (by omega) (gD D) X.2.2.1 X.2.2.2.2.1
    have f1 := (fr_X4_fill a1).1
    have f1 : ∀ a j, ¬ ((a = 52 ∧ j = 2) ∨ (53 ≤ a ∧ a ≤ 54) ∨ (a = 46 ∧ j = 5) ∨ (47 ≤ a ∧ a ≤ 50)) → σ1.1 a j = σ.1 a j := fun a j h => f1 a j h
    have B1 : BokR σ1 b D := X.2.2.1.cg (fun a j x y => f1 a j (by omega))
    have c1 : σ1.1 0 1 = b := (f1 _ _ (by omega)).trans X.2.1
    rw [a1, Option.bind_some, c1, asB_in X.1, asB_in X.1, asB_in X.1, B1.1.2.2.2.2.1]
    obtain ⟨σ2, b1, b2⟩ := k_net (σ := σ1) (t := 55) (f := b + 5) (c := cD D) hN V V.fok (by omega) hb (by omega) (by omega) B1 a2 (fun p h0 h1 => (B1.2.2.1 p h0 h1).2.1)
    have f2 := fr_X6_fill b1
    have f2' : ∀ a j, ¬ (56 ≤ a ∧ a ≤ 57) → σ2.1 a j = σ1.1 a j := fun a j h => f2.1 a j h
    rw [b1, Option.bind_some]
    have g : ∀ a j, ¬ ((a = 52 ∧ j = 2) ∨ (53 ≤ a ∧ a ≤ 54) ∨ (a = 46 ∧ j = 5) ∨ (47 ≤ a ∧ a ≤ 50) ∨ (56 ≤ a ∧ a ≤ 57) ∨ (a = 0 ∧ j = 16)) → (upI σ2 0 16 1).1 a j = σ.1 a j := fun a j h => by
      rw [upI_ne (by omega), f2' a j (by omega), f1 a j (by omega)]
    have nf : NetF (upI σ2 0 16 1) D := ⟨a2.cg (fun a j x y => by rw [up_pl (by omega), f2' a j (by omega)]), b2.cg (fun a j x => up_pl (by omega))⟩
    refine ⟨_, rfl, ⟨X.1, (g _ _ (by omega)).trans X.2.1, X.2.2.1.cg (fun a j x y => g a j (by omega)), X.2.2.2.1.cg (fun a j x y => g a j (by omega)), a3.cg (fun j => by rw [up_pl (by decide), f2' _ _ (by omega)]) (fun j => f2.2 49 j (fun z => by unfold Wr_X6_fill at z; omega)), Or.inr ⟨up_same, nf⟩, ?_⟩, fun a j h => g a j (by omega), up_same, nf, fun a j h => g a j (by omega)⟩
    rw [g 0 17 (by omega), show (upI σ2 0 16 1).1 0 16 = 1 from up_same]
    rcases X.2.2.2.2.2.2 with z | ⟨-, z, -⟩
    · exact Or.inl z
    · rw [q] at z; cases z
  · rw [if_neg (by rw [q]; decide)]
    exact ⟨σ, rfl, X, RO.rf, q, r, fun _ _ _ => rfl⟩
theorem k_refreshFlow (hN : BigN N) (V : Val D) (K : Gd D (gD D) (cD D) (D.2 5)) (X : XC σ b D) : ∃ σ', F_X11_refreshFlow N σ = some σ' ∧ XC σ' b D ∧ RO σ σ' ∧ NetF σ' D ∧ RunE σ' 58 D (gD D) (cD D) (D.2 5) G0 ∧ ∀ a j, 68 ≤ a ∧ a ≤ 93 → σ'.1 a j = σ.1 a j := by
  obtain ⟨σ1, a1, a2, a3, a4, a5, a6⟩ := k_refreshNet hN V X
  unfold F_X11_refreshFlow
  rw [a1, Option.bind_some]
  rcases a2.2.2.2.2.2.2 with q | ⟨q, -, r⟩
  · rw [if_pos q, a2.at]
    obtain ⟨σ2, σ3, b1, b2, b3⟩ := k_solve (σ := σ1) (t := 58) (tn := 55) (l := 29) (w := 0) (G := G0) hN V V.fok K a2.lt (by omega) (by omega) (by omega) (by omega) (by omega) a2.2.2.1 a5.2 a2.2.2.2.1 (fun p _ => tb_0 p)
    have f1 := fr_X1_load b1
    have f2 := fr_X1_run b2
    have g : ∀ a j, ¬ ((a = 58 ∧ 9 ≤ j ∧ j ≤ 13) ∨ (59 ≤ a ∧ a ≤ 67)) → σ3.1 a j = σ1.1 a j := fun a j h => (f2.1 a j (fun z => by unfold Wr_X1_run at z; omega)).trans (f1.1 a j (fun z => by unfold Wr_X1_load at z; omega))
    rw [b1, Option.bind_some, b2, Option.bind_some]
    have g' : ∀ a j, ¬ ((a = 58 ∧ 9 ≤ j ∧ j ≤ 13) ∨ (59 ≤ a ∧ a ≤ 67) ∨ (a = 0 ∧ j = 17)) → (upI σ3 0 17 1).1 a j = σ1.1 a j := fun a j h => by
      rw [upI_ne (by omega), g a j (by omega)]
    have rn : RunE (upI σ3 0 17 1) 58 D (gD D) (cD D) (D.2 5) G0 := RunX.cg b3 (fun a j x y => up_pl (by omega))
    have nf : NetF (upI σ3 0 17 1) D := ⟨a5.1.cg (fun a j x y => g' a j (by omega)), a5.2.cg (fun a j x => g' a j (by omega))⟩
    have hb := a2.lt
    have hb3 := a2.ge
    refine ⟨_, rfl, ⟨a2.1, (g' _ _ (by omega)).trans a2.2.1, a2.2.2.1.cg (fun a j x y => g' a j (by omega)), a2.2.2.2.1.cg (fun a j x y => g' a j (by omega)), a2.2.2.2.2.1.cg (fun j => g' _ _ (by omega)) (fun j => (f2.2 49 j (fun z => by unfold Wr_X1_run at z; omega)).trans (f1.2 49 j (fun z => by unfold Wr_X1_load at z; omega))), Or.inr ⟨(g' _ _ (by omega)).trans a4, nf⟩, Or.inr ⟨up_same, (g' _ _ (by omega)).trans a4, rn⟩⟩, fun a j h => (g' a j (by omega)).trans (a3 a j h), nf, rn, fun a j h => (g' a j (by omega)).trans (a6 a j (by omega))⟩
  · rw [if_neg (by rw [q]; decide)]
    exact ⟨σ1, rfl, a2, a3, a5, r, fun a j h => a6 a j (by omega)⟩
theorem k_isLink (hN : BigN N) (V : Val D) (X : XC σ b D) (i j : Int) : ∃ σ', F_X11_isLink N i j σ = some (if lnk D (cD D) (D.2 5) i j = true then 1 else 0, σ') ∧ XC σ' b D ∧ RO σ σ' ∧ (lnk D (cD D) (D.2 5) i j = true → NetF σ' D) ∧ ∀ a z, 68 ≤ a ∧ a ≤ 93 → σ'.1 a z = σ.1 a z := by
  have vz := V.sz
  unfold F_X11_isLink
  rw [X.at, k_hasPeriod X.2.2.1, Option.bind_some]
  by_cases h1 : 0 ≤ i ∧ i < dp D
  · rw [if_pos h1, if_neg (by decide), X.at, k_hasPeriod X.2.2.1, Option.bind_some]
    by_cases h2 : 0 ≤ j ∧ j < dp D
    · obtain ⟨σ1, a1, a2, a3, a4, a5, a6⟩ := k_refreshNet hN V X
      have ix : ja (jm i 12) j = 12 * i + j := ix12 (by omega) (by omega) (by omega) (by omega)
      rw [if_pos h2, if_neg (by decide), a1, Option.bind_some, ix, inb_in (by omega), (a5.2 i j h1.1 h1.2 h2.1 h2.2).1]
      by_cases l : lnk D (cD D) (D.2 5) i j = true
      · have q := lnk_iff.mp l
        have b := bnd_bd (g := gD D) V V.fok h1.1 h1.2 h2.1 h2.2 (by omega) (by omega)
        rw [if_pos l, if_neg (by omega), if_pos l]
        exact ⟨σ1, rfl, a2, a3, fun _ => a5, fun a z h => a6 a z (by omega)⟩
      · rw [if_neg l, if_pos (by decide), if_neg l]
        exact ⟨σ1, rfl, a2, a3, fun _ => a5, fun a z h => a6 a z (by omega)⟩
    · have l : ¬ lnk D (cD D) (D.2 5) i j = true := fun z => by have z := lnk_iff.mp z; omega
      rw [if_neg h2, if_pos rfl, if_neg l]
      exact ⟨σ, rfl, X, RO.rf, fun z => absurd z l, fun _ _ _ => rfl⟩
  · have l : ¬ lnk D (cD D) (D.2 5) i j = true := fun z => by have z := lnk_iff.mp z; omega
    rw [if_neg h1, if_pos rfl, if_neg l]
    exact ⟨σ, rfl, X, RO.rf, fun z => absurd z l, fun _ _ _ => rfl⟩
end REST
/-! the reference at rest -/
def MK (σ : Sto) (D : Dk) : Prop := ModR σ D ∧ σ.1 94 24 = 0 ∧ σ.1 94 38 = -1 ∧ σ.1 94 31 = -1 ∧ σ.1 100 3 = D.2 0 3
/-- what a question leaves alone -/
def MO (σ σ' : Sto) : Prop := (∀ a j, a < 94 ∨ 113 ≤ a ∨ (a = 94 ∧ (j = 1 ∨ (3 ≤ j ∧ j ≤ 29) ∨ j = 31 ∨ j = 33 ∨ j = 38)) ∨ (95 ≤ a ∧ a ≤ 100) ∨ (a = 101 ∧ ¬ (200 ≤ j ∧ j < 400)) → σ'.1 a j = σ.1 a j) ∧ ∀ j, σ'.2 49 j = σ.2 49 j
theorem MO.rf {σ : Sto} : MO σ σ := ⟨fun _ _ _ => rfl, fun _ => rfl⟩
theorem MO.tr {σ σ1 σ2 : Sto} (h1 : MO σ σ1) (h2 : MO σ1 σ2) : MO σ σ2 := ⟨fun a j h => (h2.1 a j h).trans (h1.1 a j h), fun j => (h2.2 j).trans (h1.2 j)⟩
theorem MK.cg {σ σ' : Sto} {D : Dk} (h : MK σ D) (V : Val D) (e' : MO σ σ') : MK σ' D := by
  have e := e'.1
  obtain ⟨⟨h1, k0, hk, h2, h3⟩, h4, h5, h6, h7⟩ := h
  have k00 : k0 = 0 := by omega
  subst k00
  refine ⟨⟨?_, 0, Or.inl rfl, by rw [e _ _ (by omega)]; exact h2, h3.cg (fun j x y => e _ _ (by omega)) V⟩, by rw [e _ _ (by omega)]; exact h4, by rw [e _ _ (by omega)]; exact h5, by rw [e _ _ (by omega)]; exact h6, by rw [e _ _ (by omega)]; exact h7⟩
  -- the first days: none is moved
  obtain ⟨t1, t2, t3⟩ := h1
  refine ⟨?_, fun m x y => ?_, fun p x y => ?_⟩
  · rw [e _ _ (by omega), e _ _ (by omega), e _ _ (by omega), e _ _ (by omega), e _ _ (by omega), e _ _ (by omega)]; exact t1
  · rw [e _ _ (by omega), e _ _ (by omega), e _ _ (by omega)]; exact t2 m x y
  · have q := t3 p x y
    rw [h6, if_neg (by omega)] at q
    rw [e 94 31 (by omega), h6, if_neg (by omega), e _ _ (by omega), e _ _ (by omega), e _ _ (by omega)]
    exact q
section REST2
variable {N : Nat} {σ : Sto} {D : Dk}
theorem MK.up2 (h : MK σ D) (V : Val D) (v : Int) : MK (upI σ 94 2 v) D ∧ MO σ (upI σ 94 2 v) := by
  have m : MO σ (upI σ 94 2 v) := ⟨fun a j q => upI_ne (by omega), fun _ => rfl⟩
  exact ⟨h.cg V m, m⟩
theorem m_solves (hN : BigN N) (V : Val D) (K : Gd D (gD D) (cD D) (D.2 5)) (M : MK σ D) (R : REn D (gD D) (cD D) (D.2 5) G0 (mE D (gD D) (cD D) (D.2 5) G0)) : ∃ σ', F_X12_solves N σ = some (tE D (gD D) (cD D) (D.2 5) G0, σ') ∧ MK σ' D ∧ MO σ σ' ∧ FlowM σ' (dp D) (pC D (gD D) (cD D) (D.2 5) G0) (fE D (gD D) (cD D) (D.2 5) G0) ∧ σ'.1 94 37 = mE D (gD D) (cD D) (D.2 5) G0 := by
  have vz := V.sz
  unfold F_X12_solves
  rw [inb_in (by omega), M.1.1.1.2.2.1]
  obtain ⟨σ1, a1, a2, a3⟩ := m_laysAll (G := G0) (cl := 1) (D' := D) hN V M.1 (gD D) (fun p hp => by
    have w := (V.per (p := p) (by omega) (by omega)).1
    rw [M.2.2.1]
    exact (decide_eq_false (by omega)).symm) (Or.inl ⟨rfl, rfl, fun k _ => ⟨rfl, rfl⟩⟩)
  have f1 := fr_X12_laysAll a1
  have m1 : MO σ σ1 := ⟨fun a j h => f1.1 a j (fun z => by unfold Wr_X12_laysAll at z; omega), fun j => f1.2 49 j (fun z => by unfold Wr_X12_laysAll at z; omega)⟩
  have M1 := M.cg V m1
  rw [a1, Option.bind_some]
  obtain ⟨σ2, b1, b2, b3, b4⟩ := m_relieves (σ := σ1) hN V M1.1 (p_prb (g := gD D) (c := cD D) (F := D.2 5) (G := G0) V) (p_fok V V.fok K) R (p_zr V K) a2 a3
  have f2 := fr_X12_relieves b1
  have m2 : MO σ1 σ2 := ⟨fun a j h => b4 a j (by omega) (by omega), fun j => f2.2 49 j (fun z => by unfold Wr_X12_relieves at z; omega)⟩
  rw [b1, Option.bind_some]
  exact ⟨σ2, rfl, M1.cg V m2, m1.tr m2, b2, b3⟩
end REST2

/-! a question, on either side: its answer -/
def QX (σ : Sto) (b : Nat) (D : Dk) (o : Option (Int × Sto)) (r : Int) : Prop := ∃ σ', o = some (r, σ') ∧ XC σ' b D ∧ RO σ σ'
def QM (σ : Sto) (D : Dk) (o : Option (Int × Sto)) (r : Int) : Prop := ∃ σ', o = some (r, σ') ∧ MK σ' D ∧ MO σ σ'
theorem MK.ro {σ σ' : Sto} {D : Dk} (h : MK σ D) (V : Val D) (e : RO σ σ') : MK σ' D := by
  obtain ⟨⟨h1, k0, hk, h2, h3⟩, h4, h5, h6, h7⟩ := h
  refine ⟨⟨h1.cg (fun j _ => e _ _ (by omega)) (fun j => e _ _ (by omega)) (fun j => e _ _ (by omega)) (fun j _ => e _ _ (by omega)), k0, hk, by rw [e _ _ (by omega)]; exact h2, h3.cg (fun j _ _ => e _ _ (by omega)) V⟩, by rw [e _ _ (by omega)]; exact h4, by rw [e _ _ (by omega)]; exact h5, by rw [e _ _ (by omega)]; exact h6, by rw [e _ _ (by omega)]; exact h7⟩
theorem XC.mo {σ σ' : Sto} {b : Nat} {D : Dk} (h : XC σ b D) (m : MO σ σ') : XC σ' b D := h.cg (fun a j q => m.1 a j (by omega)) (h.2.2.2.2.1.cg (fun j => m.1 _ _ (by omega)) m.2)
