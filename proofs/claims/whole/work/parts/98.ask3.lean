/-! QUESTIONS, third part: names, PERIODS, CLAIMS, days, what is carried, the dearest, the first ROUTE -/
section ASK3
variable {N : Nat} {σ : Sto} {b : Nat} {D : Dk}
def rNamed (D : Dk) (x : Int) : Int := fnd (fun k => decide (D.2 1 k = x)) (dm D) 0
theorem x_named (hN : BigN N) (V : Val D) (X : XC σ b D) (x : Int) : F_X11_named N x σ = some (rNamed D x) := by
  unfold F_X11_named rNamed
  rw [X.at, k_find hN V X.2.2.1]; rfl
theorem m_named (hN : BigN N) (V : Val D) (M : MK σ D) (x : Int) : QM σ D (F_X12_named N x σ) (rNamed D x) := by
  have vz := V.sz
  obtain ⟨M', m'⟩ := M.up2 V 0
  have lp : F_X12_nameAt N x 0 (dm D : Int) (upI σ 94 2 0) = some (rNamed D x) := by
    unfold F_X12_nameAt rNamed
    refine loop_find (b := fun q nx3 => F_X12_nameAt_B3 N nx3 x 0 (dm D : Int) q (upI σ 94 2 0)) (fin := fun k => some k) (bigN hN) (fun k nx hk => ?_) (fun nx => ?_)
    · show F_X12_nameAt_B3 N nx x 0 (dm D : Int) k (upI σ 94 2 0) = _
      have i3 : ja 0 (jm 3 (k : Int)) = 3 * k := by rw [jm_eq ⟨by omega, by omega⟩, ja_eq ⟨by omega, by omega⟩]; omega
      unfold F_X12_nameAt_B3
      rw [if_neg (by omega), i3, inb_in (by omega), (M'.1.1.2.1 k (by omega) (by omega)).1, ja_1 (by omega) (by omega)]
      by_cases h : D.2 1 (k : Int) = x
      · rw [if_pos h, if_pos (by simp [h])]
      · rw [if_neg h, if_neg (by simp [h])]
    · show F_X12_nameAt_B3 N nx x 0 (dm D : Int) (dm D : Int) (upI σ 94 2 0) = _
      unfold F_X12_nameAt_B3
      rw [if_pos (Int.le_refl _)]
  unfold F_X12_named
  rw [M'.1.1.1.1, lp]
  exact QM.same V M rfl
theorem k_openOf (hN : BigN N) (V : Val D) (X : XC σ b D) {p : Int} (h : isP D p) : F_X11_openOf N 29 p σ = some (opn D p) := by
  have vz := V.sz
  have r := (V.per h.1 h.2).2.2
  have t := takOf_bd V p
  have rb := rabs_bd V h.1 h.2
  unfold F_X11_openOf opn
  rw [X.at, inb_in (by omega), k_takenOf hN V X.2.2.2.1, Option.bind_some, (X.2.2.1.2.2.1 p h.1 h.2).2.2.2, jabs_eq (by omega) (by omega)]
  show some (js (rabs (D.2 7 p)) (takOf D p)) = _
  rw [js_eq ⟨by omega, by omega⟩]
def rPeriod (D : Dk) (p w : Int) : Int := if isP D p then (if w = 0 then D.2 4 p else if w = 1 then D.2 5 p else if w = 2 then D.2 6 p else if w = 3 then D.2 7 p else if w = 4 then opn D p else if w = 5 then takOf D p else -999999) else -999999
theorem x_period (hN : BigN N) (V : Val D) (X : XC σ b D) (p w : Int) : F_X11_period N p w σ = some (rPeriod D p w) := by
  have vz := V.sz
  unfold F_X11_period rPeriod
  rw [X.at, k_hasPeriod X.2.2.1, Option.bind_some]
  by_cases h : isP D p
  · obtain ⟨e1, e2, e3, e4⟩ := X.2.2.1.2.2.1 p h.1 h.2
    rw [if_pos h, if_neg (by decide), if_pos h, X.at, inb_in (by omega), e1, X.at, inb_in (by omega), e2, X.at, inb_in (by omega), e3, X.at, inb_in (by omega), e4, k_openOf hN V X h, k_takenOf hN V X.2.2.2.1]
    repeat (first | rfl | split)
  · rw [if_neg h, if_pos rfl, if_neg h]
theorem m_period (hN : BigN N) (V : Val D) (M : MK σ D) (p w : Int) : QM σ D (F_X12_period N p w σ) (rPeriod D p w) := by
  have vz := V.sz
  obtain ⟨M', m'⟩ := M.up2 V 0
  unfold F_X12_period rPeriod
  rw [m_isPeriod M'.1, Option.bind_some]
  by_cases h : isP D p
  · have T := M'.1.1.2.2 p h.1 h.2
    rw [M'.2.2.2.1, if_neg (by omega)] at T
    rw [if_pos h, if_neg (by decide), if_pos h, m_isIn, Option.bind_some]
    by_cases hw : 0 ≤ w ∧ w ≤ 5
    · rw [if_pos hw, if_neg (by decide), m_result M'.1 V h.1 h.2, m_openOf hN M'.1 V h.1 h.2, m_claimedOf hN M'.1 V]
      by_cases h3 : 3 ≤ w
      · rw [if_pos h3, if_neg (by omega : ¬ w = 0), if_neg (by omega : ¬ w = 1), if_neg (by omega : ¬ w = 2)]
        by_cases q3 : w = 3
        · rw [if_pos q3, if_pos q3]; exact QM.same V M rfl
        · rw [if_neg q3, if_neg q3]
          by_cases q4 : w = 4
          · rw [if_pos q4, if_pos q4]; exact QM.same V M rfl
          · rw [if_neg q4, if_neg q4, if_pos (by omega)]; exact QM.same V M rfl
      · have ix : ja (jm 4 p) w = 4 * p + w := by rw [jm_eq ⟨by omega, by omega⟩, ja_eq ⟨by omega, by omega⟩]
        rw [if_neg h3, ix, inb_in (by omega)]
        by_cases q0 : w = 0
        · rw [if_pos q0, q0, Int.add_zero, T.1]; exact QM.same V M rfl
        · rw [if_neg q0]
          by_cases q1 : w = 1
          · rw [if_pos q1, q1, T.2.1]; exact QM.same V M rfl
          · rw [if_neg q1, if_pos (by omega), show w = 2 by omega, T.2.2]; exact QM.same V M rfl
    · rw [if_neg hw, if_pos rfl, if_neg (by omega), if_neg (by omega), if_neg (by omega), if_neg (by omega), if_neg (by omega), if_neg (by omega)]
      exact QM.same V M rfl
  · rw [if_neg h, if_pos rfl, if_neg h]
    exact QM.same V M rfl
theorem paid_bd (V : Val D) {i j n : Int} (h0 : 0 ≤ i) (h1 : i < dp D) (n0 : 0 ≤ n) (n1 : n ≤ 99999) : 0 ≤ paid D i j n ∧ paid D i j n ≤ 98999 := by
  have w := (V.per h0 h1).1
  have a := (V.mem w.1 w.2).1
  unfold paid
  split
  · omega
  · have p := mul_bd (x := 99999) (y := 99) n0 n1 a.1 a.2
    omega
theorem m_paid (V : Val D) (M : ModR σ D) {i j n : Int} (h0 : 0 ≤ i) (h1 : i < dp D) (h2 : 0 ≤ j) (h3 : j < dp D) (n0 : 0 ≤ n) (n1 : n ≤ 9999999) : F_X12_paid N i j n σ = some (paid D i j n) := by
  have vz := V.sz
  have w := (V.per h0 h1).1
  have a := (V.mem w.1 w.2).1
  have p := mul_bd (x := 9999999) (y := 99) n0 n1 a.1 a.2
  have d := div_le_self' (b := 100) p.1 (by omega)
  have ix : ja (jm 3 (D.2 4 i)) 1 = 3 * D.2 4 i + 1 := by rw [jm_eq ⟨by omega, by omega⟩, ja_eq ⟨by omega, by omega⟩]
  unfold F_X12_paid paid
  rw [m_isCarry M V h0 h1 h2 h3, Option.bind_some, m_memberOf M V h0 h1, Option.bind_some, ix, inb_in (by omega), (M.1.2.1 _ w.1 w.2).2.1, jlm_eq ⟨by omega, by omega⟩, jld_eq ⟨by omega, by omega⟩ ⟨by omega, by omega⟩ p.1 (by omega), jl2i_eq ⟨by omega, by omega⟩]
  by_cases h : D.2 4 i = D.2 4 j
  · rw [if_pos h, if_neg (by decide), if_pos h]
  · rw [if_neg h, if_pos rfl, if_neg h]
abbrev isC (D : Dk) (k : Int) : Prop := 0 ≤ k ∧ k < dc D
def rClaimed (D : Dk) (k w : Int) : Int := if isC D k then (if w = 0 then D.2 12 k else if w = 1 then D.2 13 k else if w = 2 then D.2 14 k else if w = 3 then paid D (D.2 12 k) (D.2 13 k) (D.2 14 k) else -1) else -1
theorem x_claimed (V : Val D) (X : XC σ b D) (k w : Int) : F_X11_claimed N k w σ = some (rClaimed D k w) := by
  have vz := V.sz
  unfold F_X11_claimed rClaimed
  rw [k_has X.2.2.2.1, Option.bind_some]
  by_cases h : isC D k
  · have c := V.clm h.1 h.2
    obtain ⟨e1, e2, e3⟩ := X.2.2.2.1.2 k h.1 h.2
    have e1 : σ.1 30 k = D.2 12 k := e1
    have e2 : σ.1 31 k = D.2 13 k := e2
    have e3 : σ.1 32 k = D.2 14 k := e3
    rw [if_pos h, if_neg (by decide), if_pos h, inb_in (by omega), e1, e2, e3, X.at, k_paidFor V X.2.2.1 (by omega) (by omega) (by omega) (by omega) (by omega) (by omega)]
    repeat (first | rfl | split)
  · rw [if_neg h, if_pos rfl, if_neg h]
theorem m_isClaim (M : ModR σ D) (k : Int) : F_X12_isClaim N k σ = some (if isC D k then 1 else 0) := by
  unfold F_X12_isClaim F_X12_isClaim_J17
  rw [m_of0 M, Option.bind_some]
  by_cases h : k < 0
  · rw [if_pos h, if_neg (by omega)]
  · rw [if_neg h]
    by_cases h2 : (dc D : Int) ≤ k
    · rw [if_pos h2, if_neg (by omega)]
    · rw [if_neg h2, if_pos (by omega)]
theorem m_claimed (V : Val D) (M : MK σ D) (k w : Int) : QM σ D (F_X12_claimed N k w σ) (rClaimed D k w) := by
  have vz := V.sz
  obtain ⟨M', m'⟩ := M.up2 V 0
  unfold F_X12_claimed rClaimed
  rw [m_isClaim M'.1, Option.bind_some]
  by_cases h : isC D k
  · have c := V.clm h.1 h.2
    obtain ⟨o1, o2, o3⟩ := m_ofc (N := N) M'.1 V h.1 h.2
    rw [if_pos h, if_neg (by decide), if_pos h, m_isIn, Option.bind_some]
    by_cases hw : 0 ≤ w ∧ w ≤ 3
    · rw [if_pos hw, if_neg (by decide)]
      by_cases h3 : 3 ≤ w
      · rw [if_pos h3, o1, Option.bind_some, o2, Option.bind_some, o3, Option.bind_some, m_paid V M'.1 (by omega) (by omega) (by omega) (by omega) (by omega) (by omega), if_neg (by omega), if_neg (by omega), if_neg (by omega), if_pos (by omega)]
        exact QM.same V M rfl
      · rw [if_neg h3]
        by_cases q0 : w = 0
        · have e : ja (ja 1 (jm 3 k)) 0 = ja 1 (jm 3 k) := by rw [i3 h.1 (by omega), ja_eq ⟨by omega, by omega⟩, Int.add_zero]
          rw [if_pos q0, q0, e, o1]; exact QM.same V M rfl
        · rw [if_neg q0]
          by_cases q1 : w = 1
          · rw [if_pos q1, q1, o2]; exact QM.same V M rfl
          · rw [if_neg q1, if_pos (by omega), show w = 2 by omega, o3]; exact QM.same V M rfl
    · rw [if_neg hw, if_pos rfl, if_neg (by omega), if_neg (by omega), if_neg (by omega), if_neg (by omega)]
      exact QM.same V M rfl
  · rw [if_neg h, if_pos rfl, if_neg h]
    exact QM.same V M rfl
/-! days on which two are RELATED -/
def rDays (D : Dk) (x y w : Int) : Int := if (x ≠ y ∧ isM D x ∧ isM D y) ∧ 0 ≤ w ∧ w ≤ 2 then (if w = 0 then dyA D (gD D) x y else if w = 1 then dyZ D (gD D) x y else dys D (gD D) x y 0 999) else -1
theorem x_days (hN : BigN N) (V : Val D) (X : XC σ b D) (x y w : Int) : QX σ b D (F_X11_days N x y w σ) (rDays D x y w) := by
  unfold F_X11_days rDays
  rw [k_isPair X, Option.bind_some]
  by_cases h1 : x ≠ y ∧ isM D x ∧ isM D y
  · rw [if_pos h1, if_neg (by decide)]
    by_cases h2 : w < 0
    · rw [if_pos h2, if_neg (by omega)]; exact QX.same X rfl
    · rw [if_neg h2]
      by_cases h3 : w ≤ 2
      · obtain ⟨σ1, a1, a2, a3, a4, a5, a6⟩ := k_refreshNet hN V X
        obtain ⟨p, rfl⟩ : ∃ p : Nat, x = p := ⟨x.toNat, by omega⟩
        obtain ⟨q, rfl⟩ : ∃ q : Nat, y = q := ⟨y.toNat, by omega⟩
        rw [if_pos h3, if_pos ⟨h1, by omega, h3⟩, a1, Option.bind_some, k_firstDay hN V a5.1 (by omega) (by omega), k_lastDay hN V a5.1 (by omega) (by omega), k_days hN V a5.1 (by omega) (by omega) (by omega) (by omega) (by omega) (by omega)]
        by_cases e0 : w = 0
        · rw [if_pos e0, if_pos e0]; exact ⟨σ1, rfl, a2, a3⟩
        · rw [if_neg e0, if_neg e0]
          by_cases e1 : w = 1
          · rw [if_pos e1, if_pos e1]; exact ⟨σ1, rfl, a2, a3⟩
          · rw [if_neg e1, if_neg e1]; exact ⟨σ1, rfl, a2, a3⟩
      · rw [if_neg h3, if_neg (by omega)]; exact QX.same X rfl
  · rw [if_neg h1, if_pos rfl, if_neg (fun z => h1 z.1)]; exact QX.same X rfl
theorem m_daysQ (hN : BigN N) (V : Val D) (M : MK σ D) (x y w : Int) : QM σ D (F_X12_days N x y w σ) (rDays D x y w) := by
  have vz := V.sz
  have hn := nsD_is V
  have hn2 := hn.2.1
  obtain ⟨M', m'⟩ := M.up2 V 0
  unfold F_X12_days rDays
  rw [m_areMembers M'.1, Option.bind_some]
  by_cases h1 : isM D x ∧ isM D y
  · rw [if_pos h1, if_neg (by decide)]
    by_cases h0 : x = y
    · rw [if_pos h0, if_neg (fun z => z.1.1 h0)]; exact QM.same V M rfl
    · rw [if_neg h0, m_isIn, Option.bind_some]
      by_cases hw : 0 ≤ w ∧ w ≤ 2
      · obtain ⟨σ1, a1, a2, a3, a4⟩ := m_st hN V M' (gD D)
        obtain ⟨p, rfl⟩ : ∃ p : Nat, x = p := ⟨x.toNat, by omega⟩
        obtain ⟨q, rfl⟩ : ∃ q : Nat, y = q := ⟨y.toNat, by omega⟩
        have hp : p < dm D := by omega
        have hq : q < dm D := by omega
        rw [if_pos hw, if_neg (by decide), if_pos ⟨⟨h0, h1⟩, hw⟩, inb_in (by omega), M'.1.1.1.2.2.1, a1, Option.bind_some]
        by_cases e2 : w = 2
        · rw [if_pos e2, if_neg (by omega), if_neg (by omega), m_days hN V a2 hp hq (by omega) (by omega) (by omega) (by omega)]
          exact ⟨σ1, rfl, a3, m'.tr a4⟩
        · rw [if_neg e2]
          let f : Int → Bool := fun i => relB (pct D (stD D i.toNat)) (gD D) (dm D) p q
          have fk : ∀ k : Nat, f (k : Int) = relB (pct D (stD D k)) (gD D) (dm D) p q := fun k => by show relB (pct D (stD D (k : Int).toNat)) _ _ _ _ = _; rw [Int.toNat_natCast]
          have step : ∀ (k : Nat) (best : Int) nx, k < nsD D → F_X12_days_B63 N nx p q w best k σ1 = nx (if f k = true then (if w = 1 then stD D (k + 1) - 1 else if 0 ≤ best then best else stD D k) else best, (k : Int) + 1) := fun k best nx hk => by
            have ix : ja (jm 8 (k : Int)) (p : Int) = 8 * k + p := ix8' (by omega) (by omega) (by omega) (by omega)
            have t := tb_test0 (x := rlb (pct D (stD D k)) (gD D) (dm D) p) (k := q) (by omega)
            rw [tb_rlb vz.1 _ hq, ← fk k] at t
            have e2 := a2.2.1 (k + 1) (by omega)
            rw [show ((k + 1 : Nat) : Int) = (k : Int) + 1 by omega] at e2
            have l := stD_le V (k + 1)
            unfold F_X12_days_B63 F_X12_days_J129
            rw [a2.1, if_neg (by omega), ix, inb_in (by omega), a2.2.2 k hk p hp, ja_1 (by omega) (by omega), inb_in (by omega), e2, js_eq ⟨by omega, by omega⟩, inb_in (by omega), a2.2.1 k (by omega)]
            by_cases c : f k = true
            · rw [if_neg (fun z => by rw [t.mp z] at c; cases c), if_pos c]
              by_cases w1 : w = 1
              · rw [if_pos w1, if_pos w1]
              · rw [if_neg w1, if_neg w1]
                by_cases b0 : 0 ≤ best
                · rw [if_pos b0, if_pos b0]
                · rw [if_neg b0, if_neg b0]
            · have c' : f k = false := by
                cases h : f k
                · rfl
                · exact absurd h c
              rw [if_pos (t.mpr c'), if_neg c]
          have fin : ∀ best nx, F_X12_days_B63 N nx p q w best (nsD D : Int) σ1 = some (best, σ1) := fun best nx => by
            unfold F_X12_days_B63
            rw [a2.1, if_pos (Int.le_refl _)]
          by_cases e0 : w = 0
          · rw [if_pos e0]
            refine Exists.elim (loop_A (b := fun q' nx => F_X12_days_B63 N nx p q w q'.1 q'.2 σ1) (fin := fun q' => some (q'.1, σ1)) (N := N) (s0 := ((-2 : Int), (0 : Int))) (fun k s => s.2 = k ∧ ((s.1 = -2 ∧ ∀ i : Nat, i < k → f i = false) ∨ ∃ i : Nat, i < k ∧ f i = true ∧ (∀ j : Nat, j < i → f j = false) ∧ s.1 = stD D i)) (nsD D) (bigN hN) ⟨rfl, Or.inl ⟨rfl, fun i h => by omega⟩⟩ (fun k s hk hI => ?_) (fun s hI nx => ?_)) (fun s hs => ?_)
            rotate_right
            · obtain ⟨⟨j1, j2⟩, hx⟩ := hs
              refine ⟨σ1, hx.trans ?_, a3, m'.tr a4⟩
              show some (s.1, σ1) = _
              unfold dyA
              rcases j2 with ⟨j2, j3⟩ | ⟨i, j2, j3, j4, j5⟩
              · have e : fnd f (nsD D) ((0 : Nat) : Int) = -1 := fnd_none (fun j _ hj => j3 j (by omega))
                rw [j2]
                show _ = some (if fnd f (nsD D) ((0 : Nat) : Int) = -1 then _ else _, σ1)
                rw [e, if_pos rfl]
              · obtain ⟨z, z1, z2, z3, z4, z5⟩ := fnd_first (f := f) (n := nsD D) (k := 0) ⟨i, by omega, by omega, j3⟩
                have zi : z = i := by
                  have := z5 i (by omega) (by omega) j3
                  rcases Nat.lt_or_ge z i with y | y
                  · rw [j4 z y] at z4; cases z4
                  · omega
                show _ = some (if fnd f (nsD D) ((0 : Nat) : Int) = -1 then _ else stD D (fnd f (nsD D) ((0 : Nat) : Int)).toNat, σ1)
                rw [z1, if_neg (by omega), Int.toNat_natCast, zi, j5]
            · obtain ⟨best, u⟩ := s
              obtain ⟨rfl, i2⟩ := hI
              refine ⟨(if f k = true then (if w = 1 then stD D (k + 1) - 1 else if 0 ≤ best then best else stD D k) else best, (k : Int) + 1), ⟨by show (k : Int) + 1 = _; omega, ?_⟩, fun nx => step k best nx hk⟩
              show ((if f k = true then (if w = 1 then stD D (k + 1) - 1 else if 0 ≤ best then best else stD D k) else best) = -2 ∧ _) ∨ ∃ i : Nat, i < k + 1 ∧ f i = true ∧ (∀ j : Nat, j < i → f j = false) ∧ (if f k = true then (if w = 1 then stD D (k + 1) - 1 else if 0 ≤ best then best else stD D k) else best) = stD D i
              rw [if_neg (c := w = 1) (by omega)]
              rcases i2 with ⟨e, e2⟩ | ⟨i, e, e2, e3, e4⟩
              · have e : best = -2 := e
                by_cases c : f k = true
                · rw [if_pos c, if_neg (by omega)]
                  exact Or.inr ⟨k, by omega, c, e2, rfl⟩
                · rw [if_neg c]
                  refine Or.inl ⟨e, fun i hi => ?_⟩
                  by_cases z : i = k
                  · subst z
                    cases h : f i
                    · rfl
                    · exact absurd h c
                  · exact e2 i (by omega)
              · have e4 : best = stD D i := e4
                have l := stD_le V i
                refine Or.inr ⟨i, by omega, e2, e3, ?_⟩
                split
                · rw [if_pos (by omega)]; exact e4
                · exact e4
            · obtain ⟨best, u⟩ := s
              obtain ⟨rfl, -⟩ := hI
              exact fin best nx
          · have e1 : w = 1 := by omega
            rw [if_neg e0, if_pos e1]
            have lp : loopK (fun q' nx => F_X12_days_B63 N nx p q w q'.1 q'.2 σ1) N (-2, 0) = some (dyZ D (gD D) p q, σ1) := by
              refine loopK_for (s := fun k => ((if lst f k = -1 then -2 else stD D ((lst f k).toNat + 1) - 1), (k : Int))) (nsD D) (bigN hN) (fun k hk nx => ?_) (fun nx => ?_)
              · show F_X12_days_B63 N nx p q w (if lst f k = -1 then -2 else stD D ((lst f k).toNat + 1) - 1) (k : Int) σ1 = nx ((if (if f k = true then (k : Int) else lst f k) = -1 then -2 else stD D ((if f k = true then (k : Int) else lst f k).toNat + 1) - 1), ((k + 1 : Nat) : Int))
                rw [step k _ nx hk, if_pos e1, show ((k + 1 : Nat) : Int) = (k : Int) + 1 by omega]
                by_cases c : f k = true
                · rw [if_pos c, if_pos c, if_neg (by omega), Int.toNat_natCast]
                · rw [if_neg c, if_neg c]
              · exact fin _ nx
            rw [lp]
            exact ⟨σ1, rfl, a3, m'.tr a4⟩
      · rw [if_neg hw, if_pos rfl, if_neg (fun z => hw z.2)]; exact QM.same V M rfl
  · rw [if_neg h1, if_pos rfl, if_neg (fun z => h1 z.1.2)]; exact QM.same V M rfl
end ASK3
