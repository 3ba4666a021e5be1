/-! what MEMBERS pay: PAYS, BALANCE, OWES -/
theorem sumTo_sN {f : Int → Int} : ∀ {n : Nat}, sumTo f n = sN (fun k => f k) n := by
  intro n
  induction n with
  | zero => rfl
  | succ n ih => show sumTo f n + f n = sN (fun k => f k) n + f n; rw [ih]
theorem sN_pick {n : Nat} {x a : Int} (h : a = 0 ∨ (0 ≤ x ∧ x < n)) : sN (fun o => if x = (o : Int) then a else 0) n = a := by
  rcases h with h | h
  · rw [h, sN_congr (h := fun _ => 0) (fun k _ => by split <;> rfl), sN_zero]
  · rw [sN_congr (h := fun i => if i = x.toNat then a else 0) (fun k _ => by
      by_cases q : x = (k : Int)
      · rw [if_pos q, if_pos (by omega)]
      · rw [if_neg q, if_neg (by omega)]), sN_one (by omega)]
theorem add_cg {a b c d : Int} (h1 : a = c) (h2 : b = d) : a + b = c + d := by rw [h1, h2]
section PAY
variable {N : Nat} {σ : Sto} {b : Nat} {D : Dk}
noncomputable def hPy (D : Dk) (x y : Int) : Nat → Nat → Int := fun i j => if (x = -1 ∨ D.2 4 j = x) ∧ (y = -1 ∨ D.2 4 i = y) then paid D i j (rl D i j) else 0
def hPc (D : Dk) (x y : Int) : Int → Int := fun k => if (x = -1 ∨ D.2 4 (D.2 13 k) = x) ∧ (y = -1 ∨ D.2 4 (D.2 12 k) = y) then paid D (D.2 12 k) (D.2 13 k) (D.2 14 k) else 0
noncomputable def pRe (D : Dk) (x y : Int) : Int := s2 (hPy D x y) 12
def pCl (D : Dk) (x y : Int) : Int := sumTo (hPc D x y) (dc D)
noncomputable def pAl (D : Dk) (x y : Int) : Int := pRe D x y + pCl D x y
theorem paid_0 {i j : Int} : paid D i j 0 = 0 := by
  unfold paid
  rw [Int.zero_mul]
  split <;> rfl
theorem hPy_bd (V : Val D) (K : GdD D) (R : RD D) (x y : Int) (i j : Nat) : (0 ≤ hPy D x y i j ∧ hPy D x y i j ≤ 98999) ∧ 0 ≤ paid D i j (rl D i j) ∧ paid D i j (rl D i j) ≤ 98999 := by
  have rb : (0 ≤ rl D i j ∧ rl D i j ≤ 99999) ∧ (0 < rl D i j → lnk D (cD D) (D.2 5) i j = true) := rl_bd V V.fok K R i j
  have pb : 0 ≤ paid D i j (rl D i j) ∧ paid D i j (rl D i j) ≤ 98999 := by
    by_cases z : 0 < rl D i j
    · have lq := lnk_iff.mp (rb.2 z)
      exact paid_bd V (by omega) (by omega) rb.1.1 rb.1.2
    · rw [show rl D i j = 0 by omega, paid_0]; omega
  refine ⟨?_, pb⟩
  unfold hPy
  split
  · exact pb
  · omega
theorem hPc_bd (V : Val D) (x y : Int) (k : Nat) (hk : k < dc D) : (0 ≤ hPc D x y k ∧ hPc D x y k ≤ 98999) ∧ 0 ≤ paid D (D.2 12 k) (D.2 13 k) (D.2 14 k) ∧ paid D (D.2 12 k) (D.2 13 k) (D.2 14 k) ≤ 98999 := by
  have v := V.clm (k := k) (by omega) (by omega)
  have pb := paid_bd V (i := D.2 12 k) (j := D.2 13 k) (n := D.2 14 k) v.1.1 v.1.2 (by omega) (by omega)
  refine ⟨?_, pb⟩
  unfold hPc
  split
  · exact pb
  · omega
theorem pRe_bd (V : Val D) (K : GdD D) (R : RD D) (x y : Int) : 0 ≤ pRe D x y ∧ pRe D x y ≤ 14255856 := by
  unfold pRe
  rw [← s1_s2]
  have := sN_bd (g := fun k => hPy D x y (k / 12) (k % 12)) (b := 98999) (n := 144) (fun k _ => (hPy_bd V K R x y _ _).1)
  omega
theorem pCl_bd (V : Val D) (x y : Int) : 0 ≤ pCl D x y ∧ pCl D x y ≤ 2969970 := by
  have vz := V.sz
  unfold pCl
  have := sumTo_bd (f := hPc D x y) (lo := 0) (hi := 98999) (n := dc D) (fun k hk => (hPc_bd V x y k hk).1)
  omega
theorem k_paidRelief (hN : BigN N) (V : Val D) (K : GdD D) (X : XC σ b D) (E : RunE σ 58 D (gD D) (cD D) (D.2 5) G0) (x y : Int) : F_X11_paidForRelief N x y σ = some (pRe D x y) := by
  have vz := V.sz
  have R := E.ends
  unfold pRe
  rw [s2_cut (n := dp D) (m := 12) vz.2.1 (fun i j h => by unfold hPy; rw [show rl D i j = 0 from rl_out V V.fok K R h, paid_0]; split <;> rfl)]
  have e9 : σ.1 b 9 = dp D := X.2.2.1.1.2.1
  unfold F_X11_paidForRelief
  refine loop_sum2 (b := fun q nx5 => F_X11_paidForRelief_B5 N nx5 x y q.1 q.2 σ) (bi := fun nx i q nx' => F_X11_paidForRelief_B20 N nx nx' x y i q.1 q.2 σ) (h := hPy D x y) (fin := fun a => some a) 98999 (bigN hN) vz.2.1 (by omega) (fun i j _ _ => (hPy_bd V K R x y i j).1) (fun i a nx hi => ?_) (fun i j a nx nx' hi hj h0 h1 => ?_) (fun i a nx nx' hi => ?_) (fun a nx => ?_)
  · show F_X11_paidForRelief_B5 N nx x y a i σ = _
    unfold F_X11_paidForRelief_B5
    rw [X.at, e9, if_neg (by omega)]
  · show F_X11_paidForRelief_B20 N nx nx' x y i a j σ = _
    have ix : ja (jm (i : Int) 12) (j : Int) = 12 * i + j := ix12 (by omega) (by omega) (by omega) (by omega)
    have bd := hPy_bd V K R x y i j
    have e5 : σ.1 63 (12 * (i : Int) + j) = rl D i j := E.2.1.2.2.2 i j (by omega) (by omega)
    have rb : 0 ≤ rl D i j ∧ rl D i j ≤ 99999 := (rl_bd V V.fok K R i j).1
    unfold F_X11_paidForRelief_B20 F_X11_paidForRelief_J87
    rw [X.at, e9, if_neg (by omega), ix, inb_in (by omega), e5, ja_1 (k := (j : Int)) (by omega) (by omega)]
    unfold hPy at bd h1 ⊢
    by_cases z : rl D i j ≤ 0
    · rw [if_pos z]
      have z0 : rl D i j = 0 := by omega
      rw [z0, paid_0]
      have : (if (x = -1 ∨ D.2 4 (j : Int) = x) ∧ (y = -1 ∨ D.2 4 (i : Int) = y) then (0 : Int) else 0) = 0 := by split <;> rfl
      rw [this, Int.add_zero]
    · rw [if_neg z, X.at, k_isBetween V X.2.2.1 x y (by omega) (by omega) (by omega) (by omega), Option.bind_some]
      by_cases q : (x = -1 ∨ D.2 4 (j : Int) = x) ∧ (y = -1 ∨ D.2 4 (i : Int) = y)
      · rw [if_pos q] at bd h1
        rw [if_pos q, if_neg (by decide), if_pos q, X.at, k_paidFor V X.2.2.1 (by omega) (by omega) (by omega) (by omega) (by omega) (by omega), Option.bind_some, ja_eq ⟨by omega, by omega⟩]
      · rw [if_neg q, if_pos rfl, if_neg q, Int.add_zero]
  · show F_X11_paidForRelief_B20 N nx nx' x y i a (dp D : Int) σ = _
    unfold F_X11_paidForRelief_B20 F_X11_paidForRelief_J93
    rw [X.at, e9, if_pos (Int.le_refl _), ja_1 (by omega) (by omega)]
  · show F_X11_paidForRelief_B5 N nx x y a (dp D : Int) σ = _
    unfold F_X11_paidForRelief_B5
    rw [X.at, e9, if_pos (Int.le_refl _)]
theorem k_paidClaims (hN : BigN N) (V : Val D) (X : XC σ b D) (x y : Int) : F_X11_paidForClaims N x y σ = some (pCl D x y) := by
  have vz := V.sz
  have L := X.2.2.2.1
  unfold F_X11_paidForClaims pCl
  refine loop_sum (b := fun q nx5 => F_X11_paidForClaims_B5 N nx5 x y q.1 q.2 σ) (f := hPc D x y) (fin := fun a => some a) 98999 (bigN hN) (by omega) (by omega) (by omega) (fun k hk => by have := (hPc_bd V x y k hk).1; omega) (fun k a nx hk r1 r2 => ?_) (fun a nx => ?_)
  · show F_X11_paidForClaims_B5 N nx x y a k σ = _
    have l := L.2 k (by omega) (by omega)
    have v := V.clm (k := k) (by omega) (by omega)
    unfold F_X11_paidForClaims_B5 F_X11_paidForClaims_J81
    rw [L.1, if_neg (by omega), inb_in (by omega), X.at, l.1, l.2.1, l.2.2, k_isBetween V X.2.2.1 x y v.1.1 v.1.2 v.2.1.1 v.2.1.2, Option.bind_some, ja_1 (k := (k : Int)) (by omega) (by omega)]
    unfold hPc at r1 ⊢
    by_cases q : (x = -1 ∨ D.2 4 (D.2 13 k) = x) ∧ (y = -1 ∨ D.2 4 (D.2 12 k) = y)
    · rw [if_pos q] at r1
      rw [if_pos q, if_neg (by decide), if_pos q, X.at, k_paidFor V X.2.2.1 v.1.1 v.1.2 v.2.1.1 v.2.1.2 (by omega) (by omega), Option.bind_some, ja_eq r1]
    · rw [if_neg q, if_pos rfl, if_neg q, Int.add_zero]
  · show F_X11_paidForClaims_B5 N nx x y a (dc D : Int) σ = _
    unfold F_X11_paidForClaims_B5
    rw [L.1, if_pos (Int.le_refl _)]
theorem k_paidInAll (hN : BigN N) (V : Val D) (K : GdD D) (X : XC σ b D) (E : RunE σ 58 D (gD D) (cD D) (D.2 5) G0) (x y : Int) : F_X11_paidInAll N x y σ = some (pAl D x y) := by
  have b1 := pRe_bd V K E.ends x y
  have b2 := pCl_bd V x y
  unfold F_X11_paidInAll pAl
  rw [k_paidRelief hN V K X E, Option.bind_some, k_paidClaims hN V X, Option.bind_some, ja_eq ⟨by omega, by omega⟩]
noncomputable def rPays (D : Dk) (m w : Int) : Int := if isM D m ∧ 0 ≤ w ∧ w ≤ 3 then (if w = 0 then pRe D m (-1) else if w = 1 then pRe D (-1) m else if w = 2 then pCl D m (-1) else pCl D (-1) m) else -1
theorem x_pays (hN : BigN N) (V : Val D) (K : GdD D) (X : XC σ b D) (m w : Int) : QX σ b D (F_X11_pays N m w σ) (rPays D m w) := by
  unfold F_X11_pays rPays
  rw [X.at, k_hasMember X.2.2.1, Option.bind_some]
  by_cases h : isM D m
  · obtain ⟨σ2, b1, b2, b3, b4, b5, -⟩ := k_refreshFlow hN V K X
    rw [if_pos h, if_neg (by decide), b1, Option.bind_some, k_paidRelief hN V K b2 b5, k_paidRelief hN V K b2 b5, k_paidClaims hN V b2, k_paidClaims hN V b2]
    by_cases w0 : w = 0
    · rw [if_pos w0, if_pos ⟨h, by omega, by omega⟩, if_pos w0]; exact ⟨σ2, rfl, b2, b3⟩
    · rw [if_neg w0]
      by_cases w1 : w = 1
      · rw [if_pos w1, if_pos ⟨h, by omega, by omega⟩, if_neg w0, if_pos w1]; exact ⟨σ2, rfl, b2, b3⟩
      · rw [if_neg w1]
        by_cases w2 : w = 2
        · rw [if_pos w2, if_pos ⟨h, by omega, by omega⟩, if_neg w0, if_neg w1, if_pos w2]; exact ⟨σ2, rfl, b2, b3⟩
        · rw [if_neg w2]
          by_cases w3 : w = 3
          · rw [if_pos w3, if_pos ⟨h, by omega, by omega⟩, if_neg w0, if_neg w1, if_neg w2]; exact ⟨σ2, rfl, b2, b3⟩
          · rw [if_neg w3, if_neg (by omega)]; exact ⟨σ2, rfl, b2, b3⟩
  · rw [if_neg h, if_pos rfl, if_neg (fun z => h z.1)]; exact QX.same X rfl
theorem m_pays (hN : BigN N) (V : Val D) (K : GdD D) (R : RD D) (M : MK σ D) (m w : Int) : QM σ D (F_X12_pays N m w σ) (rPays D m w) := by
  have vz := V.sz
  obtain ⟨M', m'⟩ := M.up2 V 0
  unfold F_X12_pays rPays
  rw [m_isMember M'.1, Option.bind_some]
  by_cases h : isM D m
  · rw [if_pos h, if_neg (by decide), m_isIn, Option.bind_some]
    by_cases hw : 0 ≤ w ∧ w ≤ 3
    · rw [if_pos hw, if_neg (by decide), if_pos (show isM D m ∧ 0 ≤ w ∧ w ≤ 3 from ⟨h, hw⟩)]
      by_cases h1 : w ≤ 1
      · obtain ⟨σ1, a1, a2, a3, a4, a5⟩ := m_solves hN V K M' R
        rw [if_pos h1, a1, Option.bind_some]
        have lp : ∀ x y : Int, (x = if w = 0 then m else -1) → (y = if w = 0 then -1 else m) → loopK (fun q nx127 => F_X12_pays_B127 N nx127 m w q.1 q.2 σ1) N (0, 0) = some (pRe D x y, σ1) := fun x y hx hy => by
          unfold pRe
          refine loop_144 (b := fun q nx127 => F_X12_pays_B127 N nx127 m w q.1 q.2 σ1) (h := hPy D x y) (fin := fun a => some (a, σ1)) 98999 (bigN hN) (by omega) (fun i j _ _ => (hPy_bd V K R x y i j).1) (fun k a nx hk h0 h1 => ?_) (fun a nx => ?_)
          · show F_X12_pays_B127 N nx m w a k σ1 = _
            have e := a4.2.2 (k / 12) (k % 12) (by omega) (by omega)
            rw [k12] at e
            have e : σ1.1 107 (k : Int) = rl D (k / 12) (k % 12) := e
            have bd := hPy_bd V K R x y (k / 12) (k % 12)
            have rb : (0 ≤ rl D (k / 12) (k % 12) ∧ rl D (k / 12) (k % 12) ≤ 99999) ∧ (0 < rl D (k / 12) (k % 12) → lnk D (cD D) (D.2 5) ((k / 12 : Nat) : Int) ((k % 12 : Nat) : Int) = true) := rl_bd V V.fok K R (k / 12) (k % 12)
            unfold F_X12_pays_B127 F_X12_pays_J163 F_X12_pays_J194
            rw [if_neg (by omega), inb_in (by omega), e, ja_1 (k := (k : Int)) (by omega) (by omega), (d12 hk).1, (d12 hk).2, inb_in (by omega)]
            unfold hPy at h1 bd ⊢
            by_cases z : rl D (k / 12) (k % 12) ≤ 0
            · have z0 : rl D (k / 12) (k % 12) = 0 := by omega
              rw [if_pos z, z0, paid_0]
              have : (if (x = -1 ∨ D.2 4 ((k % 12 : Nat) : Int) = x) ∧ (y = -1 ∨ D.2 4 ((k / 12 : Nat) : Int) = y) then (0 : Int) else 0) = 0 := by split <;> rfl
              rw [this, Int.add_zero]
            · have lq := lnk_iff.mp (rb.2 (by omega))
              rw [if_neg z, m_memberOf a2.1 V (by omega) (by omega), Option.bind_some, m_memberOf a2.1 V (by omega) (by omega), Option.bind_some, m_paid V a2.1 (by omega) (by omega) (by omega) (by omega) (by omega) (by omega), Option.bind_some]
              by_cases w0 : w = 0
              · rw [if_pos w0] at hx hy
                rw [if_pos w0]
                by_cases q : D.2 4 ((k % 12 : Nat) : Int) = m
                · have c : (x = -1 ∨ D.2 4 ((k % 12 : Nat) : Int) = x) ∧ (y = -1 ∨ D.2 4 ((k / 12 : Nat) : Int) = y) := ⟨Or.inr (by rw [hx]; exact q), Or.inl hy⟩
                  rw [if_pos c] at h1 bd
                  rw [if_pos q, if_pos c, ja_eq ⟨by omega, by omega⟩]
                · rw [if_neg q, if_neg (fun c => by rcases c.1 with c | c; omega; rw [hx] at c; exact q c), Int.add_zero]
              · rw [if_neg w0] at hx hy
                rw [if_neg w0]
                by_cases q : D.2 4 ((k / 12 : Nat) : Int) = m
                · have c : (x = -1 ∨ D.2 4 ((k % 12 : Nat) : Int) = x) ∧ (y = -1 ∨ D.2 4 ((k / 12 : Nat) : Int) = y) := ⟨Or.inl hx, Or.inr (by rw [hy]; exact q)⟩
                  rw [if_pos c] at h1 bd
                  rw [if_pos q, if_pos c, ja_eq ⟨by omega, by omega⟩]
                · rw [if_neg q, if_neg (fun c => by rcases c.2 with c | c; omega; rw [hy] at c; exact q c), Int.add_zero]
          · show F_X12_pays_B127 N nx m w a ((144 : Nat) : Int) σ1 = _
            unfold F_X12_pays_B127
            rw [if_pos (by omega)]
        by_cases w0 : w = 0
        · rw [if_pos w0, lp m (-1) (by rw [if_pos w0]) (by rw [if_pos w0])]; exact ⟨σ1, rfl, a2, m'.tr a3⟩
        · rw [if_neg w0, if_pos (by omega), lp (-1) m (by rw [if_neg w0]) (by rw [if_neg w0])]; exact ⟨σ1, rfl, a2, m'.tr a3⟩
      · rw [if_neg h1, if_neg (by omega), if_neg (by omega)]
        have lp : ∀ x y : Int, (x = if w = 2 then m else -1) → (y = if w = 2 then -1 else m) → loopK (fun q nx34 => F_X12_pays_B34 N nx34 m w q.1 q.2 (upI σ 94 2 0)) N (0, 0) = some (pCl D x y, upI σ 94 2 0) := fun x y hx hy => by
          unfold pCl
          refine loop_sum (b := fun q nx34 => F_X12_pays_B34 N nx34 m w q.1 q.2 (upI σ 94 2 0)) (f := hPc D x y) (fin := fun a => some (a, upI σ 94 2 0)) 98999 (bigN hN) (by omega) (by omega) (by omega) (fun k hk => by have := (hPc_bd V x y k hk).1; omega) (fun k a nx hk r1 r2 => ?_) (fun a nx => ?_)
          · show F_X12_pays_B34 N nx m w a k (upI σ 94 2 0) = _
            have o := m_ofc (N := N) M'.1 V (k := (k : Int)) (by omega) (by omega)
            have v := V.clm (k := k) (by omega) (by omega)
            unfold F_X12_pays_B34 F_X12_pays_J69 F_X12_pays_J109
            rw [m_of0 M'.1, Option.bind_some, if_neg (by omega), o.1, o.2.1, o.2.2, ja_1 (k := (k : Int)) (by omega) (by omega), ja0 r2]
            simp only [Option.bind_some]
            rw [m_memberOf M'.1 V v.1.1 v.1.2, m_memberOf M'.1 V v.2.1.1 v.2.1.2]
            simp only [Option.bind_some]
            rw [m_paid V M'.1 v.1.1 v.1.2 v.2.1.1 v.2.1.2 (by omega) (by omega)]
            simp only [Option.bind_some]
            unfold hPc at r1 ⊢
            by_cases w0 : w = 2
            · rw [if_pos w0] at hx hy
              rw [if_pos w0]
              by_cases q : D.2 4 (D.2 13 k) = m
              · have c : (x = -1 ∨ D.2 4 (D.2 13 k) = x) ∧ (y = -1 ∨ D.2 4 (D.2 12 k) = y) := ⟨Or.inr (by rw [hx]; exact q), Or.inl hy⟩
                rw [if_pos c] at r1
                rw [if_pos q, if_pos c, ja_eq r1]
              · rw [if_neg q, if_neg (fun c => by rcases c.1 with c | c; omega; rw [hx] at c; exact q c), Int.add_zero]
            · rw [if_neg w0] at hx hy
              rw [if_neg w0]
              by_cases q : D.2 4 (D.2 12 k) = m
              · have c : (x = -1 ∨ D.2 4 (D.2 13 k) = x) ∧ (y = -1 ∨ D.2 4 (D.2 12 k) = y) := ⟨Or.inl hx, Or.inr (by rw [hy]; exact q)⟩
                rw [if_pos c] at r1
                rw [if_pos q, if_pos c, ja_eq r1]
              · rw [if_neg q, if_neg (fun c => by rcases c.2 with c | c; omega; rw [hy] at c; exact q c), Int.add_zero]
          · show F_X12_pays_B34 N nx m w a (dc D : Int) (upI σ 94 2 0) = _
            unfold F_X12_pays_B34
            rw [m_of0 M'.1, Option.bind_some, if_pos (Int.le_refl _)]
        by_cases w0 : w = 2
        · rw [if_pos w0, lp m (-1) (by rw [if_pos w0]) (by rw [if_pos w0])]; exact QM.same V M rfl
        · rw [if_neg w0, lp (-1) m (by rw [if_neg w0]) (by rw [if_neg w0])]; exact QM.same V M rfl
    · rw [if_neg hw, if_pos rfl, if_neg (fun z => hw z.2)]; exact QM.same V M rfl
  · rw [if_neg h, if_pos rfl, if_neg (fun z => h z.1)]; exact QM.same V M rfl
/-! BALANCES -/
noncomputable def bal (D : Dk) (m : Int) : Int := pAl D (-1) m - pAl D m (-1)
theorem pAl_flat (x y : Int) : pAl D x y = sN (fun k => hPy D x y (k / 12) (k % 12)) 144 + sN (fun k => hPc D x y (k : Int)) (dc D) := by
  unfold pAl pRe pCl
  rw [s1_s2, sumTo_sN]
theorem own_ok (V : Val D) (K : GdD D) (R : RD D) {n : Nat} (hn : dm D ≤ n) (i j : Nat) : paid D i j (rl D i j) = 0 ∨ ((0 ≤ D.2 4 (i : Int) ∧ D.2 4 (i : Int) < n) ∧ (0 ≤ D.2 4 (j : Int) ∧ D.2 4 (j : Int) < n)) := by
  have rb : (0 ≤ rl D i j ∧ rl D i j ≤ 99999) ∧ (0 < rl D i j → lnk D (cD D) (D.2 5) i j = true) := rl_bd V V.fok K R i j
  by_cases z : 0 < rl D i j
  · have lq := lnk_iff.mp (rb.2 z)
    have v1 := (V.per (p := (i : Int)) (by omega) (by omega)).1
    have v2 := (V.per (p := (j : Int)) (by omega) (by omega)).1
    exact Or.inr ⟨by omega, by omega⟩
  · exact Or.inl (by rw [show rl D i j = 0 by omega, paid_0])
theorem pyIn (V : Val D) (K : GdD D) (R : RD D) {n : Nat} (hn : dm D ≤ n) (y : Int) : sN (fun o => pAl D (o : Int) y) n = pAl D (-1) y := by
  rw [sN_congr (fun o _ => pAl_flat (D := D) (o : Int) y), sN_add (g := fun o : Nat => sN (fun k => hPy D (o : Int) y (k / 12) (k % 12)) 144), sN_swap (m := 144), sN_swap (m := dc D), pAl_flat]
  refine add_cg ?_ ?_
  · refine sN_congr (fun k _ => ?_)
    have ok := own_ok V K R hn (k / 12) (k % 12)
    rw [sN_congr (h := fun o => if D.2 4 ((k % 12 : Nat) : Int) = (o : Int) then hPy D (-1) y (k / 12) (k % 12) else 0) (fun o _ => by
      unfold hPy
      by_cases q : D.2 4 ((k % 12 : Nat) : Int) = (o : Int)
      · rw [if_pos q]
        by_cases q2 : y = -1 ∨ D.2 4 ((k / 12 : Nat) : Int) = y
        · rw [if_pos ⟨Or.inr q, q2⟩, if_pos ⟨Or.inl rfl, q2⟩]
        · rw [if_neg (fun z => q2 z.2), if_neg (fun z => q2 z.2)]
      · rw [if_neg q, if_neg (fun z => by rcases z.1 with z | z; omega; exact q z)])]
    refine sN_pick ?_
    rcases ok with ok | ok
    · refine Or.inl ?_
      unfold hPy
      rw [ok]
      split <;> rfl
    · exact Or.inr ok.2
  · refine sN_congr (fun k hk => ?_)
    have v := V.clm (k := k) (by omega) (by omega)
    have v1 := (V.per v.1.1 v.1.2).1
    have v2 := (V.per v.2.1.1 v.2.1.2).1
    rw [sN_congr (h := fun o => if D.2 4 (D.2 13 k) = (o : Int) then hPc D (-1) y k else 0) (fun o _ => by
      unfold hPc
      by_cases q : D.2 4 (D.2 13 k) = (o : Int)
      · rw [if_pos q]
        by_cases q2 : y = -1 ∨ D.2 4 (D.2 12 k) = y
        · rw [if_pos ⟨Or.inr q, q2⟩, if_pos ⟨Or.inl rfl, q2⟩]
        · rw [if_neg (fun z => q2 z.2), if_neg (fun z => q2 z.2)]
      · rw [if_neg q, if_neg (fun z => by rcases z.1 with z | z; omega; exact q z)])]
    exact sN_pick (Or.inr ⟨by omega, by omega⟩)
theorem pyOut (V : Val D) (K : GdD D) (R : RD D) {n : Nat} (hn : dm D ≤ n) (x : Int) : sN (fun o => pAl D x (o : Int)) n = pAl D x (-1) := by
  rw [sN_congr (fun o _ => pAl_flat (D := D) x (o : Int)), sN_add (g := fun o : Nat => sN (fun k => hPy D x (o : Int) (k / 12) (k % 12)) 144), sN_swap (m := 144), sN_swap (m := dc D), pAl_flat]
  refine add_cg ?_ ?_
  · refine sN_congr (fun k _ => ?_)
    have ok := own_ok V K R hn (k / 12) (k % 12)
    rw [sN_congr (h := fun o => if D.2 4 ((k / 12 : Nat) : Int) = (o : Int) then hPy D x (-1) (k / 12) (k % 12) else 0) (fun o _ => by
      unfold hPy
      by_cases q : D.2 4 ((k / 12 : Nat) : Int) = (o : Int)
      · rw [if_pos q]
        by_cases q2 : x = -1 ∨ D.2 4 ((k % 12 : Nat) : Int) = x
        · rw [if_pos ⟨q2, Or.inr q⟩, if_pos ⟨q2, Or.inl rfl⟩]
        · rw [if_neg (fun z => q2 z.1), if_neg (fun z => q2 z.1)]
      · rw [if_neg q, if_neg (fun z => by rcases z.2 with z | z; omega; exact q z)])]
    refine sN_pick ?_
    rcases ok with ok | ok
    · refine Or.inl ?_
      unfold hPy
      rw [ok]
      split <;> rfl
    · exact Or.inr ok.1
  · refine sN_congr (fun k hk => ?_)
    have v := V.clm (k := k) (by omega) (by omega)
    have v1 := (V.per v.1.1 v.1.2).1
    have v2 := (V.per v.2.1.1 v.2.1.2).1
    rw [sN_congr (h := fun o => if D.2 4 (D.2 12 k) = (o : Int) then hPc D x (-1) k else 0) (fun o _ => by
      unfold hPc
      by_cases q : D.2 4 (D.2 12 k) = (o : Int)
      · rw [if_pos q]
        by_cases q2 : x = -1 ∨ D.2 4 (D.2 13 k) = x
        · rw [if_pos ⟨q2, Or.inr q⟩, if_pos ⟨q2, Or.inl rfl⟩]
        · rw [if_neg (fun z => q2 z.1), if_neg (fun z => q2 z.1)]
      · rw [if_neg q, if_neg (fun z => by rcases z.2 with z | z; omega; exact q z)])]
    exact sN_pick (Or.inr ⟨by omega, by omega⟩)
theorem pAl_bd (V : Val D) (K : GdD D) (R : RD D) (x y : Int) : 0 ≤ pAl D x y ∧ pAl D x y ≤ 17225826 := by
  have b1 := pRe_bd V K R x y
  have b2 := pCl_bd V x y
  unfold pAl
  omega
/-- BALANCES are as much above 0 as below -/
theorem bal_sum (V : Val D) (K : GdD D) (R : RD D) : sN (fun m => bal D (m : Int)) (dm D) = 0 := by
  unfold bal
  rw [sN_sub (g := fun m : Nat => pAl D (-1) m), pyOut V K R (Nat.le_refl _), pyIn V K R (Nat.le_refl _), Int.sub_self]
noncomputable def rBalance (D : Dk) (m : Int) : Int := if isM D m then bal D m else -9999999
noncomputable def rOwes (D : Dk) (x y : Int) : Int := if x ≠ y ∧ isM D x ∧ isM D y then pAl D x y - pAl D y x else -9999999
theorem x_balance (hN : BigN N) (V : Val D) (K : GdD D) (X : XC σ b D) (m : Int) : QX σ b D (F_X11_balance N m σ) (rBalance D m) := by
  unfold F_X11_balance rBalance
  rw [X.at, k_hasMember X.2.2.1, Option.bind_some]
  by_cases h : isM D m
  · obtain ⟨σ2, b1, b2, b3, b4, b5, -⟩ := k_refreshFlow hN V K X
    have c1 := pAl_bd V K b5.ends (-1) m
    have c2 := pAl_bd V K b5.ends m (-1)
    rw [if_pos h, if_neg (by decide), if_pos h, b1, Option.bind_some, k_paidInAll hN V K b2 b5, Option.bind_some, k_paidInAll hN V K b2 b5, Option.bind_some, js_eq ⟨by omega, by omega⟩]
    exact ⟨σ2, rfl, b2, b3⟩
  · rw [if_neg h, if_pos rfl, if_neg h]; exact QX.same X rfl
theorem x_owes (hN : BigN N) (V : Val D) (K : GdD D) (X : XC σ b D) (x y : Int) : QX σ b D (F_X11_owes N x y σ) (rOwes D x y) := by
  unfold F_X11_owes rOwes
  rw [k_isPair X, Option.bind_some]
  by_cases h : x ≠ y ∧ isM D x ∧ isM D y
  · obtain ⟨σ2, b1, b2, b3, b4, b5, -⟩ := k_refreshFlow hN V K X
    have c1 := pAl_bd V K b5.ends x y
    have c2 := pAl_bd V K b5.ends y x
    rw [if_pos h, if_neg (by decide), if_pos h, b1, Option.bind_some, k_paidInAll hN V K b2 b5, Option.bind_some, k_paidInAll hN V K b2 b5, Option.bind_some, js_eq ⟨by omega, by omega⟩]
    exact ⟨σ2, rfl, b2, b3⟩
  · rw [if_neg h, if_pos rfl, if_neg h]; exact QX.same X rfl
end PAY
