/-! QUESTIONS, second part: RELIEF, what is left, what it costs -/
theorem sN_cut {g : Nat → Int} {n : Nat} : ∀ {m : Nat}, n ≤ m → (∀ k, n ≤ k → g k = 0) → sN g m = sN g n := by
  intro m
  induction m with
  | zero => intro h _; have : n = 0 := by omega
            rw [this]
  | succ m ih =>
    intro h hg
    by_cases e : n = m + 1
    · rw [e]
    · show sN g m + g m = _
      rw [ih (by omega) hg, hg m (by omega), Int.add_zero]
theorem s2_cut {h : Nat → Nat → Int} {n m : Nat} (hn : n ≤ m) (hz : ∀ i j, n ≤ i ∨ n ≤ j → h i j = 0) : s2 h m = s2 h n := by
  unfold s2
  have e : sN (fun i => sN (fun j => h i j) m) m = sN (fun i => sN (fun j => h i j) n) m := sN_congr (fun i _ => sN_cut hn (fun k hk => hz i k (Or.inr hk)))
  rw [e]
  exact sN_cut hn (fun i hi => by
    have : sN (fun j => h i j) n = sN (fun _ => 0) n := sN_congr (fun j _ => hz i j (Or.inl hi))
    rw [this, sN_zero])
theorem s1_s2 {h : Nat → Nat → Int} : sN (fun k => h (k / 12) (k % 12)) 144 = s2 h 12 := by
  have row : ∀ i j, j ≤ 12 → sN (fun k => h (k / 12) (k % 12)) (12 * i + j) = sN (fun k => h (k / 12) (k % 12)) (12 * i) + sN (h i) j := by
    intro i j
    induction j with
    | zero => intro _; show _ = _ + (0 : Int); rw [Int.add_zero]; rfl
    | succ j ih =>
      intro hj
      show sN _ (12 * i + j) + h ((12 * i + j) / 12) ((12 * i + j) % 12) = _ + (sN (h i) j + h i j)
      rw [ih (by omega), show (12 * i + j) / 12 = i by omega, show (12 * i + j) % 12 = j by omega]; omega
  have all : ∀ i, sN (fun k => h (k / 12) (k % 12)) (12 * i) = sN (fun i => sN (h i) 12) i := by
    intro i
    induction i with
    | zero => rfl
    | succ i ih =>
      rw [show 12 * (i + 1) = 12 * i + 12 by omega, row i 12 (Nat.le_refl _), ih]; rfl
  exact all 12
theorem loop_144 {Rt : Type} {b : Int × Int → (Int × Int → Option Rt) → Option Rt} {N : Nat} {h : Nat → Nat → Int} {fin : Int → Option Rt} (M : Int) (hN : 1000 < N) (hM : 0 ≤ M) (hh : ∀ i j, i < 12 → j < 12 → 0 ≤ h i j ∧ h i j ≤ M) (hs : ∀ (k : Nat) (a : Int) nx, k < 144 → 0 ≤ a → a + h (k / 12) (k % 12) ≤ M * 145 → b (a, (k : Int)) nx = nx (a + h (k / 12) (k % 12), (k : Int) + 1)) (he : ∀ a nx, b (a, ((144 : Nat) : Int)) nx = fin a) : loopK b N (0, 0) = fin (s2 h 12) := by
  rw [← s1_s2]
  refine loopK_for (s := fun k => (sN (fun k => h (k / 12) (k % 12)) k, (k : Int))) 144 (by omega) (fun k hk nx => ?_) (fun nx => he _ nx)
  have b1 := sN_bd (g := fun k => h (k / 12) (k % 12)) (b := M) (n := k) (fun i hi => hh _ _ (by omega) (by omega))
  have b2 := hh (k / 12) (k % 12) (by omega) (by omega)
  have b3 : M * (k : Int) ≤ M * 144 := Int.mul_le_mul_of_nonneg_left (by omega) hM
  show b (sN _ k, (k : Int)) nx = nx (sN _ k + h (k / 12) (k % 12), ((k + 1 : Nat) : Int))
  rw [hs k _ nx hk b1.1 (by omega), show ((k + 1 : Nat) : Int) = (k : Int) + 1 by omega]
theorem d12 {k : Nat} (hk : k < 144) : jdiv (k : Int) 12 = ((k / 12 : Nat) : Int) ∧ jrem (k : Int) 12 = ((k % 12 : Nat) : Int) := by
  rw [jdiv_eq ⟨by omega, by omega⟩ ⟨by omega, by omega⟩ (by omega) (by omega), jrem_eq ⟨by omega, by omega⟩ ⟨by omega, by omega⟩ (by omega) (by omega)]
  omega
theorem k12 (k : Nat) : (12 : Int) * ((k / 12 : Nat) : Int) + ((k % 12 : Nat) : Int) = (k : Int) := by omega
noncomputable abbrev rl (D : Dk) : Nat → Nat → Int := (fE D (gD D) (cD D) (D.2 5) G0).1
noncomputable abbrev lf (D : Dk) : Nat → Int := (fE D (gD D) (cD D) (D.2 5) G0).2
abbrev RD (D : Dk) : Prop := REn D (gD D) (cD D) (D.2 5) G0 (mE D (gD D) (cD D) (D.2 5) G0)
abbrev GdD (D : Dk) : Prop := Gd D (gD D) (cD D) (D.2 5)
section ASK2
variable {N : Nat} {σ : Sto} {b : Nat} {D : Dk}
theorem rl_bd {g c : Int} {F : Int → Int} {G : Int → Bool} (V : Val D) (hF : FOk D F) (K : Gd D g c F) (R : REn D g c F G (mE D g c F G)) (i j : Nat) : (0 ≤ (fE D g c F G).1 i j ∧ (fE D g c F G).1 i j ≤ 99999) ∧ (0 < (fE D g c F G).1 i j → lnk D c F i j = true) := by
  have O := p_fok (G := G) V hF K
  have S := R.1.1 _ (Nat.le_refl _)
  have C := cons_sq R.1 _ (Nat.le_refl _)
  refine ⟨f_le O S (fun i hi => (pL_bd V K hi).2) C i j, fun h => ?_⟩
  have a := (S.1 i j).2
  have h : 0 < (sq (dp D) (pS D G) (pC D g c F G) (pP D c F) (fun _ _ => 0, pL D G) (mE D g c F G)).1 i j := h
  have p : 0 < pC D g c F G i j := by omega
  unfold pC at p
  by_cases q : lnk D c F i j = true ∧ G i = false ∧ G j = false
  · exact q.1
  · rw [if_neg q] at p; omega
theorem rl_out {g c : Int} {F : Int → Int} {G : Int → Bool} (V : Val D) (hF : FOk D F) (K : Gd D g c F) (R : REn D g c F G (mE D g c F G)) {i j : Nat} (h : dp D ≤ i ∨ dp D ≤ j) : (fE D g c F G).1 i j = 0 := by
  have a := rl_bd V hF K R i j
  by_cases q : 0 < (fE D g c F G).1 i j
  · have := lnk_iff.mp (a.2 q); omega
  · omega
theorem lf_bd {g c : Int} {F : Int → Int} {G : Int → Bool} (R : REn D g c F G (mE D g c F G)) {u : Nat} (hu : u < dp D) : 0 ≤ (fE D g c F G).2 u ∧ (fE D g c F G).2 u ≤ 99999 := (R.1.1 _ (Nat.le_refl _)).2.1 u hu
/-! RELIEF on a LINK, what is left -/
noncomputable def rRelief (D : Dk) (i j : Int) : Int := if lkD D i j = true then rl D i.toNat j.toNat else -1
theorem x_relief (hN : BigN N) (V : Val D) (K : GdD D) (X : XC σ b D) (i j : Int) : QX σ b D (F_X11_relief N i j σ) (rRelief D i j) := by
  have vz := V.sz
  obtain ⟨σ1, a1, a2, a3, a4, -⟩ := k_isLink hN V X i j
  unfold F_X11_relief rRelief
  rw [a1, Option.bind_some]
  by_cases h : lkD D i j = true
  · have q := (lk_bd V h).1
    obtain ⟨x, rfl⟩ : ∃ x : Nat, i = x := ⟨i.toNat, by omega⟩
    obtain ⟨y, rfl⟩ : ∃ y : Nat, j = y := ⟨j.toNat, by omega⟩
    have ix : ja (jm (x : Int) 12) (y : Int) = 12 * x + y := ix12 (by omega) (by omega) (by omega) (by omega)
    obtain ⟨σ2, b1, b2, b3, b4, b5, -⟩ := k_refreshFlow hN V K a2
    show QX σ b D (if (if lkD D x y = true then (1 : Int) else 0) = 0 then _ else ((F_X11_refreshFlow N σ1).bind _)) _
    rw [if_pos h, if_pos h, if_neg (by decide), b1, Option.bind_some, ix, inb_in (by omega), b5.2.1.2.2.2 x y (by omega) (by omega)]
    exact ⟨σ2, rfl, b2, a3.tr b3⟩
  · show QX σ b D (if (if lkD D i j = true then (1 : Int) else 0) = 0 then _ else _) _
    rw [if_neg h, if_neg h, if_pos rfl]
    exact ⟨σ1, rfl, a2, a3⟩
theorem m_relief (hN : BigN N) (V : Val D) (K : GdD D) (R : RD D) (M : MK σ D) (i j : Int) : QM σ D (F_X12_relief N i j σ) (rRelief D i j) := by
  have vz := V.sz
  obtain ⟨M', m'⟩ := M.up2 V 0
  unfold F_X12_relief rRelief
  rw [m_isLink M'.1 V, Option.bind_some]
  by_cases h : lkD D i j = true
  · have q := (lk_bd V h).1
    obtain ⟨x, rfl⟩ : ∃ x : Nat, i = x := ⟨i.toNat, by omega⟩
    obtain ⟨y, rfl⟩ : ∃ y : Nat, j = y := ⟨j.toNat, by omega⟩
    have ix : ja (jm 12 (x : Int)) (y : Int) = 12 * x + y := ix12' (by omega) (by omega) (by omega) (by omega)
    obtain ⟨σ1, a1, a2, a3, a4, a5⟩ := m_solves hN V K M' R
    rw [if_pos h, if_neg (by decide), if_pos h, a1, Option.bind_some, ix, inb_in (by omega), a4.2.2 x y (by omega) (by omega)]
    exact ⟨σ1, rfl, a2, m'.tr a3⟩
  · rw [if_neg h, if_pos rfl, if_neg h]
    exact QM.same V M rfl
noncomputable def rLeft (D : Dk) (p : Int) : Int := if isP D p then lf D p.toNat else -1
theorem x_left (hN : BigN N) (V : Val D) (K : GdD D) (X : XC σ b D) (p : Int) : QX σ b D (F_X11_left N p σ) (rLeft D p) := by
  have vz := V.sz
  unfold F_X11_left rLeft
  rw [X.at, k_hasPeriod X.2.2.1, Option.bind_some]
  by_cases h : isP D p
  · obtain ⟨σ2, b1, b2, b3, b4, b5, -⟩ := k_refreshFlow hN V K X
    obtain ⟨x, rfl⟩ : ∃ x : Nat, p = x := ⟨p.toNat, by omega⟩
    rw [if_pos h, if_neg (by decide), if_pos h, b1, Option.bind_some, inb_in (by omega), (b5.2.1.2.1 x (by omega)).2]
    exact ⟨σ2, rfl, b2, b3⟩
  · rw [if_neg h, if_pos rfl, if_neg h]
    exact QX.same X rfl
theorem m_left (hN : BigN N) (V : Val D) (K : GdD D) (R : RD D) (M : MK σ D) (p : Int) : QM σ D (F_X12_left N p σ) (rLeft D p) := by
  have vz := V.sz
  obtain ⟨M', m'⟩ := M.up2 V 0
  unfold F_X12_left rLeft
  rw [m_isPeriod M'.1, Option.bind_some]
  by_cases h : isP D p
  · obtain ⟨σ1, a1, a2, a3, a4, a5⟩ := m_solves hN V K M' R
    obtain ⟨x, rfl⟩ : ∃ x : Nat, p = x := ⟨p.toNat, by omega⟩
    rw [if_pos h, if_neg (by decide), if_pos h, a1, Option.bind_some, inb_in (by omega), a4.1 x (by omega)]
    exact ⟨σ1, rfl, a2, m'.tr a3⟩
  · rw [if_neg h, if_pos rfl, if_neg h]
    exact QM.same V M rfl
/-! what it costs, on how many LINKS -/
noncomputable def hPr (D : Dk) : Nat → Nat → Int := fun i j => pP D (cD D) (D.2 5) i j * rl D i j
noncomputable def hUs (D : Dk) : Nat → Nat → Int := fun i j => if rl D i j ≤ 0 then 0 else 1
theorem hPr_bd (V : Val D) (K : GdD D) (R : RD D) (i j : Nat) : 0 ≤ hPr D i j ∧ hPr D i j ≤ 19799802 := by
  have a := (rl_bd V V.fok K R i j).1
  have p := (p_fok (G := G0) V V.fok K).2.1 i j
  exact mul_bd p.1 p.2 a.1 a.2
theorem hUs_bd (i j : Nat) : 0 ≤ hUs D i j ∧ hUs D i j ≤ 1 := by unfold hUs; split <;> omega
noncomputable def rSolved (D : Dk) (w : Int) : Int := if 0 ≤ w ∧ w ≤ 3 then (if w = 0 then tE D (gD D) (cD D) (D.2 5) G0 else if w = 1 then s2 (hPr D) 12 else if w = 2 then (mE D (gD D) (cD D) (D.2 5) G0 : Int) else s2 (hUs D) 12) else -1
theorem k_totalPrice (hN : BigN N) (V : Val D) (K : GdD D) {t : Nat} (E : RunE σ t D (gD D) (cD D) (D.2 5) G0) : F_X1_totalPrice N t σ = some (s2 (hPr D) 12) := by
  have vz := V.sz
  have R := E.ends
  have X := E.2.1
  rw [s2_cut (n := dp D) (m := 12) vz.2.1 (fun i j h => by unfold hPr; rw [show rl D i j = 0 from rl_out V V.fok K R h, Int.mul_zero])]
  unfold F_X1_totalPrice
  refine loop_sum2 (b := fun q nx4 => F_X1_totalPrice_B4 N nx4 t q.1 q.2 σ) (bi := fun nx i q nx' => F_X1_totalPrice_B15 N nx nx' t i q.1 q.2 σ) (h := hPr D) (fin := fun a => some a) 19799802 (bigN hN) vz.2.1 (by omega) (fun i j _ _ => hPr_bd V K R i j) (fun i a nx hi => ?_) (fun i j a nx nx' hi hj h0 h1 => ?_) (fun i a nx nx' hi => ?_) (fun a nx => ?_)
  · show F_X1_totalPrice_B4 N nx t a i σ = _
    unfold F_X1_totalPrice_B4
    rw [X.1, if_neg (by omega)]
  · show F_X1_totalPrice_B15 N nx nx' t i a j σ = _
    have ix : ja (jm (i : Int) 12) (j : Int) = 12 * i + j := ix12 (by omega) (by omega) (by omega) (by omega)
    have bd := hPr_bd V K R i j
    have e5 := X.2.2.2 i j (by omega) (by omega)
    have e4 := (X.2.2.1 i j hi hj).2
    unfold F_X1_totalPrice_B15
    rw [X.1, if_neg (by omega), ix, inb_in (by omega), e4, e5, ja_1 (by omega) (by omega)]
    have bd2 : 0 ≤ pP D (cD D) (D.2 5) i j * rl D i j ∧ pP D (cD D) (D.2 5) i j * rl D i j ≤ 19799802 := bd
    have e : jlm (pP D (cD D) (D.2 5) i j) (rl D i j) = hPr D i j := jlm_eq ⟨by omega, by omega⟩
    show nx' (jla a (jlm (pP D (cD D) (D.2 5) i j) (rl D i j)), _) = _
    rw [e, jla_eq ⟨by omega, by omega⟩]
  · show F_X1_totalPrice_B15 N nx nx' t i a (dp D : Int) σ = _
    unfold F_X1_totalPrice_B15 F_X1_totalPrice_J59
    rw [X.1, if_pos (Int.le_refl _), ja_1 (by omega) (by omega)]
  · show F_X1_totalPrice_B4 N nx t a (dp D : Int) σ = _
    unfold F_X1_totalPrice_B4
    rw [X.1, if_pos (Int.le_refl _)]
theorem k_usedLinks (hN : BigN N) (V : Val D) {t : Nat} (E : RunE σ t D (gD D) (cD D) (D.2 5) G0) : F_X1_usedLinks N t σ = some (s2 (hUs D) 12) := by
  have X := E.2.1
  unfold F_X1_usedLinks
  refine loop_144 (b := fun q nx4 => F_X1_usedLinks_B4 N nx4 t q.1 q.2 σ) (h := hUs D) (fin := fun a => some a) 1 (bigN hN) (by omega) (fun i j _ _ => hUs_bd i j) (fun k a nx hk h0 h1 => ?_) (fun a nx => ?_)
  · show F_X1_usedLinks_B4 N nx t a k σ = _
    have e := X.2.2.2 (k / 12) (k % 12) (by omega) (by omega)
    rw [k12] at e
    have u := hUs_bd (D := D) (k / 12) (k % 12)
    unfold F_X1_usedLinks_B4 F_X1_usedLinks_J25
    rw [if_neg (by omega), inb_in (by omega), e, ja_1 (k := (k : Int)) (by omega) (by omega)]
    unfold hUs
    show (if rl D (k / 12) (k % 12) ≤ 0 then _ else _) = _
    by_cases q : rl D (k / 12) (k % 12) ≤ 0
    · rw [if_pos q, if_pos q, Int.add_zero]
    · rw [if_neg q, if_neg q, ja_1 h0 (by omega)]
  · show F_X1_usedLinks_B4 N nx t a ((144 : Nat) : Int) σ = _
    unfold F_X1_usedLinks_B4
    rw [if_pos (by omega)]
theorem x_solved (hN : BigN N) (V : Val D) (K : GdD D) (X : XC σ b D) (w : Int) : QX σ b D (F_X11_solved N w σ) (rSolved D w) := by
  unfold F_X11_solved rSolved
  by_cases h1 : w < 0
  · rw [if_pos h1, if_neg (by omega)]
    exact QX.same X rfl
  · rw [if_neg h1]
    by_cases h2 : w ≤ 3
    · obtain ⟨σ2, b1, b2, b3, b4, b5, -⟩ := k_refreshFlow hN V K X
      rw [if_pos h2, b1, Option.bind_some, if_pos (show 0 ≤ w ∧ w ≤ 3 by omega), k_totalPrice hN V K b5, k_usedLinks hN V b5, b5.2.2.1, b5.2.2.2.1]
      by_cases e0 : w = 0
      · rw [if_pos e0, if_pos e0]; exact ⟨σ2, rfl, b2, b3⟩
      · rw [if_neg e0, if_neg e0]
        by_cases e1 : w = 1
        · rw [if_pos e1, if_pos e1]; exact ⟨σ2, rfl, b2, b3⟩
        · rw [if_neg e1, if_neg e1]
          by_cases e2 : w = 2
          · rw [if_pos e2, if_pos e2]; exact ⟨σ2, rfl, b2, b3⟩
          · rw [if_neg e2, if_neg e2]; exact ⟨σ2, rfl, b2, b3⟩
    · rw [if_neg h2, if_neg (by omega)]
      exact QX.same X rfl
theorem m_solved (hN : BigN N) (V : Val D) (K : GdD D) (R : RD D) (M : MK σ D) (w : Int) : QM σ D (F_X12_solved N w σ) (rSolved D w) := by
  have vz := V.sz
  obtain ⟨M', m'⟩ := M.up2 V 0
  unfold F_X12_solved rSolved
  rw [m_isIn, Option.bind_some]
  by_cases h : 0 ≤ w ∧ w ≤ 3
  · obtain ⟨σ1, a1, a2, a3, a4, a5⟩ := m_solves hN V K M' R
    rw [if_pos h, if_neg (by decide), if_pos h, a1, Option.bind_some]
    by_cases e0 : w = 0
    · rw [if_pos e0, if_pos e0]; exact ⟨σ1, rfl, a2, m'.tr a3⟩
    · rw [if_neg e0, if_neg e0]
      by_cases e2 : w = 2
      · rw [if_pos e2, if_neg (by omega), if_pos e2, a5]; exact ⟨σ1, rfl, a2, m'.tr a3⟩
      · rw [if_neg e2]
        have lp : loopK (fun q nx49 => F_X12_solved_B49 N nx49 w q.1 q.2.1 q.2.2 σ1) N (0, 0, 0) = F_X12_solved_J106 N w (s2 (hPr D) 12) (s2 (hUs D) 12) σ1 := by
          rw [← s1_s2, ← s1_s2]
          refine loopK_for (s := fun k => (sN (fun k => hPr D (k / 12) (k % 12)) k, sN (fun k => hUs D (k / 12) (k % 12)) k, (k : Int))) 144 (bigN hN) (fun k hk nx => ?_) (fun nx => ?_)
          · have b1 := sN_bd (g := fun k => hPr D (k / 12) (k % 12)) (b := 19799802) (n := k) (fun i _ => hPr_bd V K R _ _)
            have b2 := sN_bd (g := fun k => hUs D (k / 12) (k % 12)) (b := 1) (n := k) (fun i _ => hUs_bd _ _)
            have bd := hPr_bd V K R (k / 12) (k % 12)
            have e := a4.2.2 (k / 12) (k % 12) (by omega) (by omega)
            rw [k12] at e
            have rb : (0 ≤ rl D (k / 12) (k % 12) ∧ rl D (k / 12) (k % 12) ≤ 99999) ∧ (0 < rl D (k / 12) (k % 12) → lnk D (cD D) (D.2 5) ((k / 12 : Nat) : Int) ((k % 12 : Nat) : Int) = true) := rl_bd V V.fok K R (k / 12) (k % 12)
            show F_X12_solved_B49 N nx w (sN _ k) (sN _ k) k σ1 = nx (sN _ k + hPr D (k / 12) (k % 12), sN _ k + hUs D (k / 12) (k % 12), ((k + 1 : Nat) : Int))
            unfold F_X12_solved_B49 F_X12_solved_J100
            rw [if_neg (by omega), inb_in (by omega), e, ja_1 (k := (k : Int)) (by omega) (by omega), (d12 hk).1, (d12 hk).2, show ((k + 1 : Nat) : Int) = (k : Int) + 1 by omega]
            show (if rl D (k / 12) (k % 12) = 0 then _ else _) = _
            by_cases z : rl D (k / 12) (k % 12) = 0
            · have p0 : hPr D (k / 12) (k % 12) = 0 := by unfold hPr; rw [z, Int.mul_zero]
              have u0 : hUs D (k / 12) (k % 12) = 0 := by unfold hUs; rw [z]; rfl
              rw [if_pos z, p0, u0, Int.add_zero, Int.add_zero]
            · have rp : 0 < rl D (k / 12) (k % 12) := by have := rb.1.1; omega
              have lk := rb.2 rp
              have lq := lnk_iff.mp lk
              have u1 : hUs D (k / 12) (k % 12) = 1 := by unfold hUs; rw [if_neg (by omega)]
              have p1 : pP D (cD D) (D.2 5) (k / 12) (k % 12) = prc D ((k / 12 : Nat) : Int) ((k % 12 : Nat) : Int) := by unfold pP; rw [if_pos lk]
              have bd2 : 0 ≤ rl D (k / 12) (k % 12) * prc D ((k / 12 : Nat) : Int) ((k % 12 : Nat) : Int) ∧ rl D (k / 12) (k % 12) * prc D ((k / 12 : Nat) : Int) ((k % 12 : Nat) : Int) ≤ 19799802 := by
                unfold hPr at bd
                rw [p1, Int.mul_comm] at bd; exact bd
              have e3 : jlm (rl D (k / 12) (k % 12)) (prc D ((k / 12 : Nat) : Int) ((k % 12 : Nat) : Int)) = hPr D (k / 12) (k % 12) := by
                rw [jlm_eq ⟨by omega, by omega⟩]; unfold hPr; rw [p1, Int.mul_comm]
              rw [if_neg z, m_priceOf a2.1 V (by omega) (by omega) (by omega) (by omega), Option.bind_some]
              show nx (jla _ (jlm (rl D (k / 12) (k % 12)) _), ja _ 1, _) = _
              rw [e3, jla_eq ⟨by omega, by omega⟩, ja_1 b2.1 (by omega), u1]
          · show F_X12_solved_B49 N nx w (sN _ 144) (sN _ 144) ((144 : Nat) : Int) σ1 = _
            unfold F_X12_solved_B49
            rw [if_pos (by omega)]
        rw [lp]
        unfold F_X12_solved_J106
        by_cases e1 : w = 1
        · rw [if_pos e1, if_pos e1]; exact ⟨σ1, rfl, a2, m'.tr a3⟩
        · rw [if_neg e1, if_neg e1, if_neg e2]; exact ⟨σ1, rfl, a2, m'.tr a3⟩
  · rw [if_neg h, if_pos rfl, if_neg h]
    exact QM.same V M rfl
/-! TAX -/
noncomputable def txF (D : Dk) (m : Int) : Int → Int := fun p => if D.2 4 p = m ∧ 0 < D.2 7 p then lf D p.toNat * D.2 3 m / 100 else 0
noncomputable def rTax (D : Dk) (m : Int) : Int := if isM D m then sumTo (txF D m) (dp D) else -1
theorem tx_bd (V : Val D) (R : RD D) {m : Int} (hm : isM D m) {u : Nat} (hu : u < dp D) : (0 ≤ lf D u * D.2 3 m ∧ lf D u * D.2 3 m ≤ 9899901) ∧ 0 ≤ lf D u * D.2 3 m / 100 ∧ lf D u * D.2 3 m / 100 ≤ 9899901 := by
  have a : 0 ≤ lf D u ∧ lf D u ≤ 99999 := lf_bd R hu
  have r := (V.mem hm.1 hm.2).2
  have p := mul_bd (x := 99999) (y := 99) a.1 a.2 r.1 r.2
  have d := div_le_self' (b := 100) p.1 (by omega)
  exact ⟨⟨p.1, by omega⟩, d.1, by omega⟩
theorem x_tax (hN : BigN N) (V : Val D) (K : GdD D) (X : XC σ b D) (m : Int) : QX σ b D (F_X11_tax N m σ) (rTax D m) := by
  have vz := V.sz
  unfold F_X11_tax rTax
  rw [X.at, k_hasMember X.2.2.1, Option.bind_some]
  by_cases h : isM D m
  · obtain ⟨σ2, b1, b2, b3, b4, b5, -⟩ := k_refreshFlow hN V K X
    have R : RD D := b5.ends
    have lp : loopK (fun q nx21 => F_X11_tax_B21 N nx21 m q.1 q.2 σ2) N (0, 0) = some (sumTo (txF D m) (dp D), σ2) := by
      refine loop_sum (b := fun q nx21 => F_X11_tax_B21 N nx21 m q.1 q.2 σ2) (fin := fun a => some (a, σ2)) 9899901 (bigN hN) (by omega) (by omega) (by omega) (fun k hk => ?_) (fun k a nx hk hr ha => ?_) (fun a nx => ?_)
      · have t := tx_bd V R h hk
        unfold txF
        rw [Int.toNat_natCast]
        split <;> omega
      · show F_X11_tax_B21 N nx m a k σ2 = _
        obtain ⟨e1, e2, e3, e4⟩ := b2.2.2.1.2.2.1 k (by omega) (by omega)
        have t := tx_bd V R h hk
        have el := (b5.2.1.2.1 k hk).2
        have er := (b2.2.2.1.2.1 m h.1 h.2).2.2
        unfold F_X11_tax_B21 F_X11_tax_J82
        rw [b2.at, b2.2.2.1.1.2.1, if_neg (by omega), b2.at, inb_in (by omega), e1, b2.at, e4, b2.at, inb_in (by omega), er, el, ja_1 (k := (k : Int)) (by omega) (by omega)]
        unfold txF at hr ⊢
        rw [Int.toNat_natCast] at hr ⊢
        by_cases q : D.2 4 k = m
        · rw [if_pos q]
          by_cases q2 : D.2 7 k ≤ 0
          · rw [if_pos q2, if_neg (by omega), Int.add_zero]
          · rw [if_pos (show D.2 4 k = m ∧ 0 < D.2 7 k by omega)] at hr
            have ej : jdiv (jm (lf D k) (D.2 3 m)) 100 = lf D k * D.2 3 m / 100 := by rw [jm_eq ⟨by omega, by omega⟩, jdiv_eq ⟨by omega, by omega⟩ ⟨by omega, by omega⟩ t.1.1 (by omega)]
            rw [if_neg q2, if_pos (show D.2 4 k = m ∧ 0 < D.2 7 k by omega)]
            show nx (ja a (jdiv (jm (lf D k) (D.2 3 m)) 100), _) = _
            rw [ej, ja_eq hr]
        · rw [if_neg q, if_neg (fun z => q z.1), Int.add_zero]
      · show F_X11_tax_B21 N nx m a (dp D : Int) σ2 = _
        unfold F_X11_tax_B21
        rw [b2.at, b2.2.2.1.1.2.1, if_pos (Int.le_refl _)]
    rw [if_pos h, if_neg (by decide), if_pos h, b1, Option.bind_some, lp]
    exact ⟨σ2, rfl, b2, b3⟩
  · rw [if_neg h, if_pos rfl, if_neg h]
    exact QX.same X rfl
theorem m_tax (hN : BigN N) (V : Val D) (K : GdD D) (R : RD D) (M : MK σ D) (m : Int) : QM σ D (F_X12_tax N m σ) (rTax D m) := by
  have vz := V.sz
  obtain ⟨M', m'⟩ := M.up2 V 0
  unfold F_X12_tax rTax
  rw [m_isMember M'.1, Option.bind_some]
  by_cases h : isM D m
  · obtain ⟨σ1, a1, a2, a3, a4, a5⟩ := m_solves hN V K M' R
    have lp : loopK (fun q nx24 => F_X12_tax_B24 N nx24 m q.1 q.2 σ1) N (0, 0) = some (sumTo (txF D m) (dp D), σ1) := by
      refine loop_sum (b := fun q nx24 => F_X12_tax_B24 N nx24 m q.1 q.2 σ1) (fin := fun a => some (a, σ1)) 9899901 (bigN hN) (by omega) (by omega) (by omega) (fun k hk => ?_) (fun k a nx hk hr ha => ?_) (fun a nx => ?_)
      · have t := tx_bd V R h hk
        unfold txF
        rw [Int.toNat_natCast]
        split <;> omega
      · show F_X12_tax_B24 N nx m a k σ1 = _
        have t := tx_bd V R h hk
        have er := (a2.1.1.2.1 m h.1 h.2).2.2
        have i3 : ja (jm 3 m) 2 = 3 * m + 2 := by rw [jm_eq ⟨by omega, by omega⟩, ja_eq ⟨by omega, by omega⟩]
        unfold F_X12_tax_B24 F_X12_tax_J76
        rw [a2.1.1.1.2.1, if_neg (by omega), m_memberOf a2.1 V (by omega) (by omega), Option.bind_some, m_result a2.1 V (by omega) (by omega), Option.bind_some, inb_in (by omega), i3, inb_in (by omega), er, a4.1 k hk, ja_1 (k := (k : Int)) (by omega) (by omega)]
        unfold txF at hr ⊢
        rw [Int.toNat_natCast] at hr ⊢
        by_cases q : D.2 4 k = m
        · rw [if_pos q]
          by_cases q2 : D.2 7 k ≤ 0
          · rw [if_pos q2, if_neg (by omega), Int.add_zero]
          · rw [if_pos (show D.2 4 k = m ∧ 0 < D.2 7 k by omega)] at hr
            have ej : jl2i (jld (jlm (lf D k) (D.2 3 m)) 100) = lf D k * D.2 3 m / 100 := by rw [jlm_eq ⟨by omega, by omega⟩, jld_eq ⟨by omega, by omega⟩ ⟨by omega, by omega⟩ t.1.1 (by omega), jl2i_eq ⟨by omega, by omega⟩]
            rw [if_neg q2, if_pos (show D.2 4 k = m ∧ 0 < D.2 7 k by omega)]
            show nx (ja a (jl2i (jld (jlm (lf D k) (D.2 3 m)) 100)), _) = _
            rw [ej, ja_eq hr]
        · rw [if_neg q, if_neg (fun z => q z.1), Int.add_zero]
      · show F_X12_tax_B24 N nx m a (dp D : Int) σ1 = _
        unfold F_X12_tax_B24
        rw [a2.1.1.1.2.1, if_pos (Int.le_refl _)]
    rw [if_pos h, if_neg (by decide), if_pos h, a1, Option.bind_some, lp]
    exact ⟨σ1, rfl, a2, m'.tr a3⟩
  · rw [if_neg h, if_pos rfl, if_neg h]
    exact QM.same V M rfl
end ASK2
