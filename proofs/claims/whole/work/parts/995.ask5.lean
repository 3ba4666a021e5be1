/-! what is CARRIED, the dearest LINK -/
section CAR
variable {N : Nat} {σ : Sto} {b : Nat} {D : Dk}
def onI (D : Dk) (i j : Int) : Int := if D.2 4 i = D.2 4 j then 1 else 0
noncomputable def hCa (D : Dk) (t : Int) : Nat → Nat → Int := fun i j => if onI D i j = t then rl D i j else 0
def hCl (D : Dk) (t : Int) : Int → Int := fun k => if onI D (D.2 12 k) (D.2 13 k) = t then D.2 14 k else 0
noncomputable def rCarried (D : Dk) (w : Int) : Int := if 0 ≤ w ∧ w ≤ 3 then (if w = 0 then s2 (hCa D 1) 12 else if w = 1 then s2 (hCa D 0) 12 else if w = 2 then sumTo (hCl D 1) (dc D) else sumTo (hCl D 0) (dc D)) else -1
theorem hCa_bd (V : Val D) (K : GdD D) (R : RD D) (t : Int) (i j : Nat) : 0 ≤ hCa D t i j ∧ hCa D t i j ≤ 99999 := by
  have := (rl_bd V V.fok K R i j).1
  unfold hCa
  show 0 ≤ (if onI D i j = t then (fE D (gD D) (cD D) (D.2 5) G0).1 i j else 0) ∧ (if onI D i j = t then (fE D (gD D) (cD D) (D.2 5) G0).1 i j else 0) ≤ 99999
  split
  · exact this
  · omega
theorem hCl_bd (V : Val D) (t : Int) (k : Nat) (hk : k < dc D) : -99999 ≤ hCl D t k ∧ hCl D t k ≤ 99999 := by
  have := V.clm (k := k) (by omega) (by omega)
  unfold hCl
  split <;> omega
theorem k_reliefOn (hN : BigN N) (V : Val D) (K : GdD D) (X : XC σ b D) (E : RunE σ 58 D (gD D) (cD D) (D.2 5) G0) (t : Int) : F_X11_reliefOn N t σ = some (s2 (hCa D t) 12) := by
  have vz := V.sz
  have R := E.ends
  rw [s2_cut (n := dp D) (m := 12) vz.2.1 (fun i j h => by unfold hCa; rw [show rl D i j = 0 from rl_out V V.fok K R h]; split <;> rfl)]
  have e9 : σ.1 b 9 = dp D := X.2.2.1.1.2.1
  unfold F_X11_reliefOn
  refine loop_sum2 (b := fun q nx4 => F_X11_reliefOn_B4 N nx4 t q.1 q.2 σ) (bi := fun nx i q nx' => F_X11_reliefOn_B18 N nx nx' t i q.1 q.2 σ) (h := hCa D t) (fin := fun a => some a) 99999 (bigN hN) vz.2.1 (by omega) (fun i j _ _ => hCa_bd V K R t i j) (fun i a nx hi => ?_) (fun i j a nx nx' hi hj h0 h1 => ?_) (fun i a nx nx' hi => ?_) (fun a nx => ?_)
  · show F_X11_reliefOn_B4 N nx t a i σ = _
    unfold F_X11_reliefOn_B4
    rw [X.at, e9, if_neg (by omega)]
  · show F_X11_reliefOn_B18 N nx nx' t i a j σ = _
    have ix : ja (jm (i : Int) 12) (j : Int) = 12 * i + j := ix12 (by omega) (by omega) (by omega) (by omega)
    have bd := hCa_bd V K R t i j
    have e5 : σ.1 63 (12 * (i : Int) + j) = rl D i j := E.2.1.2.2.2 i j (by omega) (by omega)
    unfold F_X11_reliefOn_B18 F_X11_reliefOn_J62
    rw [X.at, e9, if_neg (by omega), X.at, k_isOne V X.2.2.1 (by omega) (by omega) (by omega) (by omega), Option.bind_some, ix, inb_in (by omega), e5, ja_1 (k := (j : Int)) (by omega) (by omega)]
    show (if onI D i j = t then _ else _) = nx' (a + (if onI D i j = t then rl D i j else 0), _)
    unfold hCa at bd h1
    by_cases q : onI D i j = t
    · rw [if_pos q] at bd h1
      rw [if_pos q, if_pos q, ja_eq ⟨by omega, by omega⟩]
    · rw [if_neg q, if_neg q, Int.add_zero]
  · show F_X11_reliefOn_B18 N nx nx' t i a (dp D : Int) σ = _
    unfold F_X11_reliefOn_B18 F_X11_reliefOn_J68
    rw [X.at, e9, if_pos (Int.le_refl _), ja_1 (by omega) (by omega)]
  · show F_X11_reliefOn_B4 N nx t a (dp D : Int) σ = _
    unfold F_X11_reliefOn_B4
    rw [X.at, e9, if_pos (Int.le_refl _)]
theorem k_claimsOn (hN : BigN N) (V : Val D) (X : XC σ b D) (t : Int) : F_X11_claimsOn N t σ = some (sumTo (hCl D t) (dc D)) := by
  have vz := V.sz
  have L := X.2.2.2.1
  unfold F_X11_claimsOn
  refine loop_sum (b := fun q nx4 => F_X11_claimsOn_B4 N nx4 t q.1 q.2 σ) (f := hCl D t) (fin := fun a => some a) 99999 (bigN hN) (by omega) (by omega) (by omega) (fun k hk => hCl_bd V t k hk) (fun k a nx hk r1 r2 => ?_) (fun a nx => ?_)
  · show F_X11_claimsOn_B4 N nx t a k σ = _
    have l := L.2 k (by omega) (by omega)
    have v := V.clm (k := k) (by omega) (by omega)
    unfold F_X11_claimsOn_B4 F_X11_claimsOn_J56
    rw [L.1, if_neg (by omega), X.at, inb_in (by omega), l.1, l.2.1, l.2.2, k_isOne V X.2.2.1 v.1.1 v.1.2 v.2.1.1 v.2.1.2, Option.bind_some, ja_1 (k := (k : Int)) (by omega) (by omega)]
    show (if onI D (D.2 12 k) (D.2 13 k) = t then _ else _) = nx (a + (if onI D (D.2 12 k) (D.2 13 k) = t then D.2 14 k else 0), _)
    unfold hCl at r1
    by_cases q : onI D (D.2 12 k) (D.2 13 k) = t
    · rw [if_pos q] at r1
      rw [if_pos q, if_pos q, ja_eq r1]
    · rw [if_neg q, if_neg q, Int.add_zero]
  · show F_X11_claimsOn_B4 N nx t a (dc D : Int) σ = _
    unfold F_X11_claimsOn_B4
    rw [L.1, if_pos (Int.le_refl _)]
theorem x_carried (hN : BigN N) (V : Val D) (K : GdD D) (X : XC σ b D) (w : Int) : QX σ b D (F_X11_carried N w σ) (rCarried D w) := by
  unfold F_X11_carried rCarried
  by_cases h1 : w < 0
  · rw [if_pos h1, if_neg (by omega)]; exact QX.same X rfl
  · rw [if_neg h1]
    by_cases h2 : w ≤ 3
    · rw [if_pos h2, if_pos (show 0 ≤ w ∧ w ≤ 3 by omega)]
      obtain ⟨σ2, b1, b2, b3, b4, b5, -⟩ := k_refreshFlow hN V K X
      have a0 : jand 0 1 = 0 := by decide
      have a1 : jand 1 1 = 1 := by decide
      have a2 : jand 2 1 = 0 := by decide
      have a3 : jand 3 1 = 1 := by decide
      unfold F_X11_carried_J22
      rw [b1]
      simp only [Option.bind_some]
      rw [k_reliefOn hN V K b2 b5, k_reliefOn hN V K b2 b5, k_claimsOn hN V X, k_claimsOn hN V X]
      simp only [Option.bind_some]
      rcases (by omega : w = 0 ∨ w = 1 ∨ w = 2 ∨ w = 3) with rfl | rfl | rfl | rfl
      · rw [a0, if_pos rfl, if_pos (by decide), if_pos rfl]; exact ⟨σ2, rfl, b2, b3⟩
      · rw [a1, if_neg (by decide), if_pos (by decide), if_neg (by decide), if_pos rfl]; exact ⟨σ2, rfl, b2, b3⟩
      · rw [a2, if_pos rfl, if_neg (by decide), if_neg (by decide), if_neg (by decide), if_pos rfl]; exact QX.same X rfl
      · rw [a3, if_neg (by decide), if_neg (by decide), if_neg (by decide), if_neg (by decide), if_neg (by decide)]; exact QX.same X rfl
    · rw [if_neg h2, if_neg (by omega)]; exact QX.same X rfl
theorem m_carried (hN : BigN N) (V : Val D) (K : GdD D) (R : RD D) (M : MK σ D) (w : Int) : QM σ D (F_X12_carried N w σ) (rCarried D w) := by
  have vz := V.sz
  obtain ⟨M', m'⟩ := M.up2 V 0
  unfold F_X12_carried rCarried
  rw [m_isIn, Option.bind_some]
  by_cases h : 0 ≤ w ∧ w ≤ 3
  · rw [if_pos h, if_neg (by decide), if_pos h]
    by_cases h1 : w ≤ 1
    · obtain ⟨σ1, a1, a2, a3, a4, a5⟩ := m_solves hN V K M' R
      rw [if_pos h1, a1, Option.bind_some]
      have lp : ∀ t : Int, (t = if w = 0 then 1 else 0) → loopK (fun q nx102 => F_X12_carried_B102 N nx102 w q.1 q.2 σ1) N (0, 0) = some (s2 (hCa D t) 12, σ1) := fun t ht => by
        refine loop_144 (b := fun q nx102 => F_X12_carried_B102 N nx102 w q.1 q.2 σ1) (h := hCa D t) (fin := fun a => some (a, σ1)) 99999 (bigN hN) (by omega) (fun i j _ _ => hCa_bd V K R t i j) (fun k a nx hk h0 h1 => ?_) (fun a nx => ?_)
        · show F_X12_carried_B102 N nx w a k σ1 = _
          have e := a4.2.2 (k / 12) (k % 12) (by omega) (by omega)
          rw [k12] at e
          have e : σ1.1 107 (k : Int) = rl D (k / 12) (k % 12) := e
          have rb : (0 ≤ rl D (k / 12) (k % 12) ∧ rl D (k / 12) (k % 12) ≤ 99999) ∧ (0 < rl D (k / 12) (k % 12) → lnk D (cD D) (D.2 5) ((k / 12 : Nat) : Int) ((k % 12 : Nat) : Int) = true) := rl_bd V V.fok K R (k / 12) (k % 12)
          unfold F_X12_carried_B102 F_X12_carried_J152 F_X12_carried_J140 F_X12_carried_J152 F_X12_carried_J153
          rw [if_neg (by omega), inb_in (by omega), e, ja_1 (k := (k : Int)) (by omega) (by omega), (d12 hk).1, (d12 hk).2, inb_in (by omega), ja0 ⟨by omega, by have := (hCa_bd V K R t (k / 12) (k % 12)).1; omega⟩]
          unfold hCa at h1 ⊢
          by_cases z : rl D (k / 12) (k % 12) ≤ 0
          · have z0 : rl D (k / 12) (k % 12) = 0 := by omega
            rw [if_pos z, z0]
            have : (if onI D ((k / 12 : Nat) : Int) ((k % 12 : Nat) : Int) = t then (0 : Int) else 0) = 0 := by split <;> rfl
            rw [this, Int.add_zero]
          · have lq := lnk_iff.mp (rb.2 (by omega))
            rw [if_neg z, m_isCarry a2.1 V (by omega) (by omega) (by omega) (by omega), Option.bind_some]
            show (if w = 0 then (if onI D ((k / 12 : Nat) : Int) ((k % 12 : Nat) : Int) = 1 then _ else _) else (if onI D ((k / 12 : Nat) : Int) ((k % 12 : Nat) : Int) = 0 then _ else _)) = _
            by_cases w0 : w = 0
            · rw [if_pos w0] at ht
              subst ht
              rw [if_pos w0]
              by_cases q : onI D ((k / 12 : Nat) : Int) ((k % 12 : Nat) : Int) = 1
              · rw [if_pos q] at h1
                rw [if_pos q, if_pos q, ja_eq ⟨by omega, by omega⟩]
              · rw [if_neg q, if_neg q, Int.add_zero]
            · rw [if_neg w0] at ht
              subst ht
              rw [if_neg w0]
              by_cases q : onI D ((k / 12 : Nat) : Int) ((k % 12 : Nat) : Int) = 0
              · rw [if_pos q] at h1
                rw [if_pos q, if_pos q, ja_eq ⟨by omega, by omega⟩]
              · rw [if_neg q, if_neg q, Int.add_zero]
        · show F_X12_carried_B102 N nx w a ((144 : Nat) : Int) σ1 = _
          unfold F_X12_carried_B102
          rw [if_pos (by omega)]
      by_cases w0 : w = 0
      · rw [if_pos w0, lp 1 (by rw [if_pos w0])]; exact ⟨σ1, rfl, a2, m'.tr a3⟩
      · rw [if_neg w0, if_pos (by omega), lp 0 (by rw [if_neg w0])]; exact ⟨σ1, rfl, a2, m'.tr a3⟩
    · rw [if_neg h1, if_neg (by omega), if_neg (by omega)]
      have lp : ∀ t : Int, (t = if w = 2 then 1 else 0) → loopK (fun q nx25 => F_X12_carried_B25 N nx25 w q.1 q.2 (upI σ 94 2 0)) N (0, 0) = some (sumTo (hCl D t) (dc D), upI σ 94 2 0) := fun t ht => by
        refine loop_sum (b := fun q nx25 => F_X12_carried_B25 N nx25 w q.1 q.2 (upI σ 94 2 0)) (f := hCl D t) (fin := fun a => some (a, upI σ 94 2 0)) 99999 (bigN hN) (by omega) (by omega) (by omega) (fun k hk => hCl_bd V t k hk) (fun k a nx hk r1 r2 => ?_) (fun a nx => ?_)
        · show F_X12_carried_B25 N nx w a k (upI σ 94 2 0) = _
          have o := m_ofc (N := N) M'.1 V (k := (k : Int)) (by omega) (by omega)
          have v := V.clm (k := k) (by omega) (by omega)
          unfold F_X12_carried_B25 F_X12_carried_J70 F_X12_carried_J85
          rw [m_of0 M'.1, Option.bind_some, if_neg (by omega), o.1, Option.bind_some, o.2.1, Option.bind_some, o.2.2, m_isCarry M'.1 V v.1.1 v.1.2 v.2.1.1 v.2.1.2, Option.bind_some, Option.bind_some, ja_1 (k := (k : Int)) (by omega) (by omega), ja0 r2]
          show (if w = 2 then (if onI D (D.2 12 k) (D.2 13 k) = 1 then _ else _) else (if onI D (D.2 12 k) (D.2 13 k) = 0 then _ else _)) = nx (a + (if onI D (D.2 12 k) (D.2 13 k) = t then D.2 14 k else 0), _)
          unfold hCl at r1
          by_cases w0 : w = 2
          · rw [if_pos w0] at ht
            subst ht
            rw [if_pos w0]
            by_cases q : onI D (D.2 12 k) (D.2 13 k) = 1
            · rw [if_pos q] at r1
              rw [if_pos q, if_pos q, ja_eq r1]
            · rw [if_neg q, if_neg q, Int.add_zero]
          · rw [if_neg w0] at ht
            subst ht
            rw [if_neg w0]
            by_cases q : onI D (D.2 12 k) (D.2 13 k) = 0
            · rw [if_pos q] at r1
              rw [if_pos q, if_pos q, ja_eq r1]
            · rw [if_neg q, if_neg q, Int.add_zero]
        · show F_X12_carried_B25 N nx w a (dc D : Int) (upI σ 94 2 0) = _
          unfold F_X12_carried_B25
          rw [m_of0 M'.1, Option.bind_some, if_pos (Int.le_refl _)]
      by_cases w0 : w = 2
      · rw [if_pos w0, lp 1 (by rw [if_pos w0])]; exact QM.same V M rfl
      · rw [if_neg w0, lp 0 (by rw [if_neg w0])]; exact QM.same V M rfl
  · rw [if_neg h, if_pos rfl, if_neg h]; exact QM.same V M rfl
/-! the dearest LINK -/
def pk (D : Dk) (k : Int) : Int := prc D (k / 12) (k % 12)
noncomputable def drK (D : Dk) : Nat → Int
  | 0 => -1
  | k + 1 => if rl D (k / 12) (k % 12) ≤ 0 then drK D k else if drK D k < 0 ∨ pk D (drK D k) < pk D k then k else drK D k
theorem drK_bd (V : Val D) (K : GdD D) (R : RD D) : ∀ k, drK D k = -1 ∨ ((0 ≤ drK D k ∧ drK D k < k) ∧ (drK D k / 12 < dp D ∧ drK D k % 12 < dp D)) := by
  intro k
  induction k with
  | zero => exact Or.inl rfl
  | succ k ih =>
    have e : drK D (k + 1) = if rl D (k / 12) (k % 12) ≤ 0 then drK D k else if drK D k < 0 ∨ pk D (drK D k) < pk D k then k else drK D k := rfl
    rw [e]
    by_cases z : rl D (k / 12) (k % 12) ≤ 0
    · rw [if_pos z]
      rcases ih with ih | ih
      · exact Or.inl ih
      · exact Or.inr ⟨by omega, ih.2⟩
    · rw [if_neg z]
      have rb : 0 < rl D (k / 12) (k % 12) → lnk D (cD D) (D.2 5) ((k / 12 : Nat) : Int) ((k % 12 : Nat) : Int) = true := (rl_bd V V.fok K R (k / 12) (k % 12)).2
      have lq := lnk_iff.mp (rb (by omega))
      split
      · exact Or.inr ⟨by omega, by omega⟩
      · rcases ih with ih | ih
        · exact Or.inl ih
        · exact Or.inr ⟨by omega, ih.2⟩
theorem drK_skip {k : Nat} : ∀ {m : Nat}, (∀ j, k ≤ j → j < k + m → rl D (j / 12) (j % 12) ≤ 0) → drK D (k + m) = drK D k := by
  intro m
  induction m with
  | zero => intro _; rfl
  | succ m ih =>
    intro h
    show (if rl D ((k + m) / 12) ((k + m) % 12) ≤ 0 then drK D (k + m) else _) = _
    rw [if_pos (h (k + m) (by omega) (by omega)), ih (fun j h1 h2 => h j h1 (by omega))]
def encA (x : Int) : Int := if x < 0 then -2 else 16 * (x / 12) + x % 12
def encB (D : Dk) (x : Int) : Int := if x < 0 then -1 else pk D x
noncomputable def rDearest (D : Dk) : Int := encA (drK D 144)
theorem x_dearest (hN : BigN N) (V : Val D) (K : GdD D) (X : XC σ b D) : QX σ b D (F_X11_dearest N σ) (rDearest D) := by
  have vz := V.sz
  obtain ⟨σ2, b1, b2, b3, b4, b5, -⟩ := k_refreshFlow hN V K X
  have R := b5.ends
  have e9 : σ2.1 b 9 = dp D := b2.2.2.1.1.2.1
  unfold F_X11_dearest
  rw [b1, Option.bind_some]
  refine ⟨σ2, ?_, b2, b3⟩
  have inner : ∀ (i : Nat) nx11, i < dp D → loopK (fun q nx25 => F_X11_dearest_B25 N nx11 nx25 (i : Int) q.1 q.2.1 q.2.2 σ2) N (encA (drK D (12 * i)), encB D (drK D (12 * i)), 0) = nx11 (encA (drK D (12 * (i + 1))), encB D (drK D (12 * (i + 1))), (i : Int) + 1) := fun i nx11 hi => by
    refine loopK_for (b := fun q nx25 => F_X11_dearest_B25 N nx11 nx25 (i : Int) q.1 q.2.1 q.2.2 σ2) (s := fun j => (encA (drK D (12 * i + j)), encB D (drK D (12 * i + j)), (j : Int))) (dp D) (bigN hN) (fun j hj nx => ?_) (fun nx => ?_)
    · show F_X11_dearest_B25 N nx11 nx i (encA (drK D (12 * i + j))) (encB D (drK D (12 * i + j))) j σ2 = nx (encA (drK D (12 * i + j + 1)), encB D (drK D (12 * i + j + 1)), ((j + 1 : Nat) : Int))
      have ix : ja (jm (i : Int) 12) (j : Int) = 12 * i + j := ix12 (by omega) (by omega) (by omega) (by omega)
      have e5 : σ2.1 63 (12 * (i : Int) + j) = rl D i j := b5.2.1.2.2.2 i j (by omega) (by omega)
      have e7 : σ2.1 57 (12 * (i : Int) + j) = _ := (b4.2 i j (by omega) (by omega) (by omega) (by omega)).2
      have q1 : (12 * i + j) / 12 = i := by omega
      have q2 : (12 * i + j) % 12 = j := by omega
      have es : drK D (12 * i + j + 1) = if rl D i j ≤ 0 then drK D (12 * i + j) else if drK D (12 * i + j) < 0 ∨ pk D (drK D (12 * i + j)) < pk D ((12 * i + j : Nat) : Int) then ((12 * i + j : Nat) : Int) else drK D (12 * i + j) := by
        show (if rl D ((12 * i + j) / 12) ((12 * i + j) % 12) ≤ 0 then drK D (12 * i + j) else if drK D (12 * i + j) < 0 ∨ pk D (drK D (12 * i + j)) < pk D ((12 * i + j : Nat) : Int) then ((12 * i + j : Nat) : Int) else drK D (12 * i + j)) = _
        rw [q1, q2]
      have pe : pk D ((12 * i + j : Nat) : Int) = prc D i j := by
        unfold pk
        rw [show ((12 * i + j : Nat) : Int) / 12 = i by omega, show ((12 * i + j : Nat) : Int) % 12 = j by omega]
      unfold F_X11_dearest_B25 F_X11_dearest_J92
      rw [b2.at, e9, if_neg (by omega), ix, inb_in (by omega), e5, ja_1 (k := (j : Int)) (by omega) (by omega), es, show ((j + 1 : Nat) : Int) = (j : Int) + 1 by omega]
      by_cases z : rl D i j ≤ 0
      · rw [if_pos z, if_pos z]
      · have lk : lnk D (cD D) (D.2 5) i j = true := (rl_bd V V.fok K R i j).2 (by show 0 < rl D i j; omega)
        rw [if_pos lk] at e7
        have pb := prc_bd V (i := (i : Int)) (j := (j : Int)) (by omega) (by omega) (by omega) (by omega)
        rw [if_neg z, if_neg z, e7, pe]
        have en : encA ((12 * i + j : Nat) : Int) = 16 * i + j := by
          unfold encA
          rw [if_neg (by omega)]; omega
        have en2 : encB D ((12 * i + j : Nat) : Int) = prc D i j := by
          unfold encB
          rw [if_neg (by omega), pe]
        have ix16 : ja (jm 16 (i : Int)) (j : Int) = 16 * i + j := by rw [jm_eq ⟨by omega, by omega⟩, ja_eq ⟨by omega, by omega⟩]
        by_cases q : drK D (12 * i + j) < 0 ∨ pk D (drK D (12 * i + j)) < prc D i j
        · rw [if_pos q, en, en2, ix16, if_neg (by
            unfold encB
            split
            · omega
            · rename_i h; rcases q with q | q
              · exact absurd q h
              · omega)]
        · have q3 : ¬ drK D (12 * i + j) < 0 := fun h => q (Or.inl h)
          rw [if_neg q, if_pos (by
            unfold encB
            rw [if_neg q3]
            have : ¬ pk D (drK D (12 * i + j)) < prc D i j := fun h => q (Or.inr h)
            omega)]
    · show F_X11_dearest_B25 N nx11 nx i (encA (drK D (12 * i + dp D))) (encB D (drK D (12 * i + dp D))) (dp D : Int) σ2 = _
      have sk : drK D (12 * (i + 1)) = drK D (12 * i + dp D) := by
        rw [show 12 * (i + 1) = (12 * i + dp D) + (12 - dp D) by omega]
        exact drK_skip (fun j h1 h2 => by
          have := rl_out V V.fok K R (i := j / 12) (j := j % 12) (Or.inr (by omega))
          exact Int.le_of_eq this)
      unfold F_X11_dearest_B25 F_X11_dearest_J98
      rw [b2.at, e9, if_pos (Int.le_refl _), ja_1 (by omega) (by omega), sk]
  refine loopK_for (b := fun q nx11 => F_X11_dearest_B11 N nx11 q.1 q.2.1 q.2.2 σ2) (s := fun i => (encA (drK D (12 * i)), encB D (drK D (12 * i)), (i : Int))) (dp D) (bigN hN) (fun i hi nx => ?_) (fun nx => ?_)
  · show F_X11_dearest_B11 N nx (encA (drK D (12 * i))) (encB D (drK D (12 * i))) i σ2 = nx (encA (drK D (12 * (i + 1))), encB D (drK D (12 * (i + 1))), ((i + 1 : Nat) : Int))
    unfold F_X11_dearest_B11
    rw [b2.at, e9, if_neg (by omega), inner i nx hi]; rfl
  · show F_X11_dearest_B11 N nx (encA (drK D (12 * dp D))) (encB D (drK D (12 * dp D))) (dp D : Int) σ2 = _
    have sk : drK D 144 = drK D (12 * dp D) := by
      have : drK D (12 * dp D + (144 - 12 * dp D)) = drK D (12 * dp D) := drK_skip (fun j h1 h2 => by
        have := rl_out V V.fok K R (i := j / 12) (j := j % 12) (Or.inl (by omega))
        exact Int.le_of_eq this)
      rw [show 12 * dp D + (144 - 12 * dp D) = 144 by omega] at this
      exact this
    unfold F_X11_dearest_B11 rDearest
    rw [b2.at, e9, if_pos (Int.le_refl _), sk]
theorem m_dearest (hN : BigN N) (V : Val D) (K : GdD D) (R : RD D) (M : MK σ D) : QM σ D (F_X12_dearest N σ) (rDearest D) := by
  have vz := V.sz
  obtain ⟨M', m'⟩ := M.up2 V 0
  obtain ⟨σ1, a1, a2, a3, a4, a5⟩ := m_solves hN V K M' R
  unfold F_X12_dearest
  rw [a1, Option.bind_some]
  refine ⟨σ1, ?_, a2, m'.tr a3⟩
  have dd : ∀ x : Int, 0 ≤ x → x < 144 → jdiv x 12 = x / 12 ∧ jrem x 12 = x % 12 := fun x h0 h1 => ⟨jdiv_eq ⟨by omega, by omega⟩ ⟨by decide, by decide⟩ h0 (by decide), jrem_eq ⟨by omega, by omega⟩ ⟨by decide, by decide⟩ h0 (by decide)⟩
  refine loopK_for (b := fun q nx14 => F_X12_dearest_B14 N nx14 q.1 q.2 σ1) (s := fun k => (drK D k, (k : Int))) 144 (bigN hN) (fun k hk nx => ?_) (fun nx => ?_)
  · show F_X12_dearest_B14 N nx (drK D k) k σ1 = nx (if rl D (k / 12) (k % 12) ≤ 0 then drK D k else if drK D k < 0 ∨ pk D (drK D k) < pk D k then (k : Int) else drK D k, ((k + 1 : Nat) : Int))
    have e := a4.2.2 (k / 12) (k % 12) (by omega) (by omega)
    rw [k12] at e
    have e : σ1.1 107 (k : Int) = rl D (k / 12) (k % 12) := e
    have rb : (0 ≤ rl D (k / 12) (k % 12) ∧ rl D (k / 12) (k % 12) ≤ 99999) ∧ (0 < rl D (k / 12) (k % 12) → lnk D (cD D) (D.2 5) ((k / 12 : Nat) : Int) ((k % 12 : Nat) : Int) = true) := rl_bd V V.fok K R (k / 12) (k % 12)
    have db := drK_bd V K R k
    unfold F_X12_dearest_B14 F_X12_dearest_J64 F_X12_dearest_J66
    rw [if_neg (by omega), inb_in (by omega), e, ja_1 (k := (k : Int)) (by omega) (by omega), show ((k + 1 : Nat) : Int) = (k : Int) + 1 by omega]
    by_cases z : rl D (k / 12) (k % 12) = 0
    · rw [if_pos z, if_pos (by omega)]
    · have lq := lnk_iff.mp (rb.2 (by omega))
      rw [if_neg z, if_neg (c := rl D (k / 12) (k % 12) ≤ 0) (by omega)]
      by_cases q : drK D k < 0
      · rw [if_pos q, if_pos (Or.inl q)]
      · have db : (0 ≤ drK D k ∧ drK D k < k) ∧ (drK D k / 12 < dp D ∧ drK D k % 12 < dp D) := by
          rcases db with db | db
          · omega
          · exact db
        rw [if_neg q, (dd k (by omega) (by omega)).1, (dd k (by omega) (by omega)).2, (dd _ db.1.1 (by omega)).1, (dd _ db.1.1 (by omega)).2, m_priceOf a2.1 V (by omega) (by omega) (by omega) (by omega), Option.bind_some, m_priceOf a2.1 V (by omega) (by omega) (by omega) (by omega), Option.bind_some]
        show (if pk D k ≤ pk D (drK D k) then _ else _) = _
        by_cases q2 : pk D (drK D k) < pk D k
        · rw [if_neg (by omega), if_pos (Or.inr q2)]
        · rw [if_pos (by omega), if_neg (fun h => h.elim q q2)]
  · show F_X12_dearest_B14 N nx (drK D 144) ((144 : Nat) : Int) σ1 = _
    have db := drK_bd V K R 144
    unfold F_X12_dearest_B14 F_X12_dearest_J72 rDearest encA
    rw [if_pos (by omega)]
    by_cases q : drK D 144 < 0
    · rw [if_neg (by omega), if_pos q]
    · rw [if_pos (by omega), if_neg q, (dd _ (by omega) (by omega)).1, (dd _ (by omega) (by omega)).2, jm_eq ⟨by omega, by omega⟩, ja_eq ⟨by omega, by omega⟩]
end CAR
