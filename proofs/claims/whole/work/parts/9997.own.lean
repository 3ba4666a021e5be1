/-! OWN: a part more -/
def addO (D : Dk) (a b p d : Int) : Dk := ((dm D, dp D, dn D + 1, dc D), fun r x => if x = (dn D : Int) ∧ 8 ≤ r ∧ r ≤ 11 then (if r = 8 then a else if r = 9 then b else if r = 10 then p else d) else D.2 r x)
section OWN
variable {N : Nat} {σ : Sto} {bk : Nat} {D : Dk} {a b p d : Int}
theorem addO_row {r : Nat} (h : r < 8 ∨ 11 < r) : (addO D a b p d).2 r = D.2 r := by
  funext x
  show (if x = (dn D : Int) ∧ 8 ≤ r ∧ r ≤ 11 then _ else D.2 r x) = D.2 r x
  rw [if_neg (by omega)]
theorem addO_old {r : Nat} {x : Int} (h : x ≠ dn D) : (addO D a b p d).2 r x = D.2 r x := if_neg (fun z => h z.1)
theorem addO_new : (addO D a b p d).2 8 (dn D) = a ∧ (addO D a b p d).2 9 (dn D) = b ∧ (addO D a b p d).2 10 (dn D) = p ∧ (addO D a b p d).2 11 (dn D) = d := by
  refine ⟨?_, ?_, ?_, ?_⟩
  · show (if (dn D : Int) = (dn D : Int) ∧ 8 ≤ 8 ∧ 8 ≤ 11 then _ else _) = a
    rw [if_pos ⟨rfl, by decide, by decide⟩, if_pos rfl]
  · show (if (dn D : Int) = (dn D : Int) ∧ 8 ≤ 9 ∧ 9 ≤ 11 then _ else _) = b
    rw [if_pos ⟨rfl, by decide, by decide⟩, if_neg (by decide), if_pos rfl]
  · show (if (dn D : Int) = (dn D : Int) ∧ 8 ≤ 10 ∧ 10 ≤ 11 then _ else _) = p
    rw [if_pos ⟨rfl, by decide, by decide⟩, if_neg (by decide), if_neg (by decide), if_pos rfl]
  · show (if (dn D : Int) = (dn D : Int) ∧ 8 ≤ 11 ∧ 11 ≤ 11 then _ else _) = d
    rw [if_pos ⟨rfl, by decide, by decide⟩, if_neg (by decide), if_neg (by decide), if_neg (by decide)]
theorem addO_sm : SameT (addO D a b p d) D := ⟨⟨rfl, rfl⟩, fun r h => (addO_row (by omega)).symm⟩
theorem addO_g : gD (addO D a b p d) = gD D ∧ cD (addO D a b p d) = cD D ∧ (addO D a b p d).2 5 = D.2 5 := ⟨by show (addO D a b p d).2 0 0 = _; rw [addO_row (by omega)], by show (addO D a b p d).2 0 3 = _; rw [addO_row (by omega)], addO_row (by omega)⟩
abbrev okO (D : Dk) (a b p d : Int) : Prop := (isM D a ∧ isM D b ∧ a < b) ∧ (0 ≤ p ∧ p ≤ 100) ∧ isD d
theorem addO_val (V : Val D) (hn : dn D < 24) (h : okO D a b p d) : Val (addO D a b p d) := by
  have vz := V.sz
  refine ⟨⟨vz.1, vz.2.1, by show dn D + 1 ≤ 24; omega, vz.2.2.2⟩, ?_, ?_, ?_, fun k k0 k1 => ?_, ?_⟩
  · rw [addO_row (by omega)]; exact V.sc
  · rw [addO_row (by omega), addO_row (by omega)]; exact V.2.2.1
  · rw [addO_row (by omega), addO_row (by omega), addO_row (by omega), addO_row (by omega)]; exact V.2.2.2.1
  · have k1 : k < ((dn D + 1 : Nat) : Int) := k1
    by_cases e : k = dn D
    · subst e
      rw [addO_new.1, addO_new.2.1, addO_new.2.2.1, addO_new.2.2.2]
      exact ⟨⟨h.1.1.1, h.1.2.2, h.1.2.1.2⟩, h.2.1, h.2.2⟩
    · rw [addO_old e, addO_old e, addO_old e, addO_old e]
      exact V.own k0 (by omega)
  · rw [addO_row (by omega), addO_row (by omega), addO_row (by omega)]; exact V.2.2.2.2.2
theorem addO_lnk (c : Int) (F : Int → Int) : lnk (addO D a b p d) c F = lnk D c F := by
  funext i j
  unfold lnk
  rw [addO_row (r := 7) (by omega), addO_row (r := 4) (by omega), addO_row (r := 6) (by omega)]
  rfl
theorem addO_tak : takOf (addO D a b p d) = takOf D ∧ takOn (addO D a b p d) = takOn D := by
  constructor
  · funext q
    unfold takOf
    refine sumTo_congr (fun k _ => ?_)
    unfold takF
    rw [addO_row (r := 12) (by omega), addO_row (r := 13) (by omega), addO_row (r := 14) (by omega)]
  · funext x y
    unfold takOn
    refine sumTo_congr (fun k _ => ?_)
    unfold tonF
    rw [addO_row (r := 12) (by omega), addO_row (r := 13) (by omega), addO_row (r := 14) (by omega)]
/-- CLAIMS beyond their BOUNDS -/
def excB (E : Dk) : Bool := anyB (fun k => decide (bnd E (gD E) (E.2 5) (E.2 12 k) (E.2 13 k) < takOn E (E.2 12 k) (E.2 13 k))) (dc E)
theorem ton_ex {x y : Int} (h : takOn D x y ≠ 0) : ∃ k : Nat, k < dc D ∧ D.2 12 k = x ∧ D.2 13 k = y := by
  have key : ∀ n : Nat, sumTo (tonF D x y) n ≠ 0 → ∃ k : Nat, k < n ∧ tonF D x y k ≠ 0 := by
    intro n
    induction n with
    | zero => intro h; exact absurd rfl h
    | succ n ih =>
      intro h
      by_cases q : tonF D x y n = 0
      · obtain ⟨k, k1, k2⟩ := ih (fun z => h (by show sumTo (tonF D x y) n + tonF D x y n = 0; rw [z, q]; rfl))
        exact ⟨k, by omega, k2⟩
      · exact ⟨n, by omega, q⟩
  obtain ⟨k, k1, k2⟩ := key (dc D) h
  refine ⟨k, k1, ?_⟩
  unfold tonF at k2
  by_cases q : D.2 12 k = x ∧ D.2 13 k = y
  · exact q
  · rw [if_neg q] at k2; exact absurd rfl k2
theorem addO_gd (V : Val D) (K : GdD D) (hn : dn D < 24) (h : okO D a b p d) (he : excB (addO D a b p d) = false) : GdD (addO D a b p d) := by
  have V' := addO_val V hn h
  obtain ⟨g1, g2, g3⟩ := addO_g (D := D) (a := a) (b := b) (p := p) (d := d)
  refine ⟨fun k hk => ?_, fun x y hl => ?_, fun q q0 q1 => ?_⟩
  · rw [addO_row (r := 12) (by omega), addO_row (r := 13) (by omega), addO_lnk, g2, g3]
    exact K.1 k hk
  · by_cases z : takOn (addO D a b p d) x y = 0
    · rw [z]
      have lq := lnk_iff.mp hl
      exact (bnd_bd V' (g := gD (addO D a b p d)) V'.fok lq.1 lq.2.1 lq.2.2.1 lq.2.2.2.1 lq.2.2.2.2.1 lq.2.2.2.2.2.1).1
    · obtain ⟨k, k1, k2, k3⟩ := ton_ex z
      rcases Int.lt_or_le (bnd (addO D a b p d) (gD (addO D a b p d)) ((addO D a b p d).2 5) x y) (takOn (addO D a b p d) x y) with w | w
      · have : excB (addO D a b p d) = true := anyB_iff.mpr ⟨k, k1, decide_eq_true (by rw [k2, k3]; exact w)⟩
        rw [this] at he; cases he
      · exact w
  · unfold opn
    rw [addO_tak.1, addO_row (r := 7) (by omega)]
    exact K.2.2 q q0 q1
theorem inv_own : InvR 3 0 0 0 0 (addO D a b p d) D := Or.inr (Or.inr (Or.inr ⟨rfl, ⟨rfl, fun x x0 x1 => by rw [addO_old (by omega), addO_old (by omega), addO_old (by omega), addO_old (by omega)]; exact ⟨rfl, rfl, rfl, rfl⟩⟩, ⟨rfl, fun x _ _ => by rw [addO_row (by omega), addO_row (by omega), addO_row (by omega)]; exact ⟨rfl, rfl, rfl⟩⟩, fun q _ _ => by rw [addO_row (by omega)]⟩))
noncomputable def rOwn (D : Dk) (a b p d : Int) : Int := if okO D a b p d then (if dn D = 24 then -2 else if excB (addO D a b p d) = true then -3 else (dn D : Int) + 1) else -1
/-- the class has changed nothing that counts -/
def XSame (σ σ1 : Sto) (b : Nat) (D : Dk) : Prop := XC σ1 b D ∧ FX σ σ1 ∧ ∀ y z, y = 33 ∨ y = 34 → σ1.1 y z = σ.1 y z
theorem XSame.ro {σ1 : Sto} (X : XC σ1 bk D) (h : RO σ σ1) : XSame σ σ1 bk D := ⟨X, FX.ro h, fun y z q => h y z (by omega)⟩
theorem k_add (hn : dn D < 24) {t : Nat} (T : PtsR σ t D) : ∃ σ', F_X7_add N t a b p d σ = some σ' ∧ PtsR σ' t (addO D a b p d) ∧ (∀ x z, ¬ (t ≤ x ∧ x ≤ t + 4) → σ'.1 x z = σ.1 x z) ∧ σ'.2 = σ.2 := by
  have p1 : ∀ (τ : Sto) (j v : Int), (upI τ (t + 1) j v).1 t 4 = τ.1 t 4 := fun _ _ _ => up_pl (by omega)
  have p2 : ∀ (τ : Sto) (j v : Int), (upI τ (t + 2) j v).1 t 4 = τ.1 t 4 := fun _ _ _ => up_pl (by omega)
  have p3 : ∀ (τ : Sto) (j v : Int), (upI τ (t + 3) j v).1 t 4 = τ.1 t 4 := fun _ _ _ => up_pl (by omega)
  have p4 : ∀ (τ : Sto) (j v : Int), (upI τ (t + 4) j v).1 t 4 = τ.1 t 4 := fun _ _ _ => up_pl (by omega)
  unfold F_X7_add
  simp only [p1, p2, p3, p4, T.1]
  rw [if_neg (by omega), inb_in (by omega), inb_in (by omega), inb_in (by omega), inb_in (by omega), ja_1 (by omega) (by omega)]
  refine ⟨_, rfl, ⟨?_, fun k k0 k1 => ?_⟩, fun x z q => ?_, rfl⟩
  · rw [up_same]; show (dn D : Int) + 1 = ((dn D + 1 : Nat) : Int); omega
  · have k1 : k < ((dn D + 1 : Nat) : Int) := k1
    by_cases e : k = dn D
    · subst e
      rw [addO_new.1, addO_new.2.1, addO_new.2.2.1, addO_new.2.2.2]
      refine ⟨?_, ?_, ?_, ?_⟩
      · rw [up_pl (by omega), up_pl (by omega), up_pl (by omega), up_pl (by omega), up_same]
      · rw [up_pl (by omega), up_pl (by omega), up_pl (by omega), up_same]
      · rw [up_pl (by omega), up_pl (by omega), up_same]
      · rw [up_pl (by omega), up_same]
    · rw [addO_old e, addO_old e, addO_old e, addO_old e]
      have l := T.2 k k0 (by omega)
      refine ⟨?_, ?_, ?_, ?_⟩
      · rw [up_pl (by omega), up_ix e, up_ix e, up_ix e, up_ix e]; exact l.1
      · rw [up_pl (by omega), up_ix e, up_ix e, up_ix e, up_ix e]; exact l.2.1
      · rw [up_pl (by omega), up_ix e, up_ix e, up_ix e, up_ix e]; exact l.2.2.1
      · rw [up_pl (by omega), up_ix e, up_ix e, up_ix e, up_ix e]; exact l.2.2.2
  · rw [up_pl (by omega), up_pl (by omega), up_pl (by omega), up_pl (by omega), up_pl (by omega)]
theorem k_exceed (hN : BigN N) {E : Dk} (V : Val E) (X : XC σ bk E) (Nf : NetF σ E) (hl : ∀ k : Nat, k < dc E → lkD E (E.2 12 k) (E.2 13 k) = true) : F_X11_claimsExceedBounds N σ = some (if excB E = true then 1 else 0) := by
  have vz := V.sz
  have L := X.2.2.2.1
  unfold F_X11_claimsExceedBounds
  have lp := loop_any (b := fun q nx2 => F_X11_claimsExceedBounds_B2 N nx2 q σ) (N := N) (m := dc E) (f := fun k => decide (bnd E (gD E) (E.2 5) (E.2 12 k) (E.2 13 k) < takOn E (E.2 12 k) (E.2 13 k))) (r1 := some (1 : Int)) (r0 := some 0) (bigN hN) (fun k nx hk => by
    have l := L.2 k (by omega) (by omega)
    have l1 : σ.1 30 (k : Int) = E.2 12 k := l.1
    have l2 : σ.1 31 (k : Int) = E.2 13 k := l.2.1
    have v := V.clm (k := k) (by omega) (by omega)
    have ix : ja (jm (E.2 12 k) 12) (E.2 13 k) = 12 * E.2 12 k + E.2 13 k := ix12 (by omega) (by omega) (by omega) (by omega)
    have eb : σ.1 56 (12 * E.2 12 k + E.2 13 k) = bnd E (gD E) (E.2 5) (E.2 12 k) (E.2 13 k) := by
      rw [(Nf.2 (E.2 12 k) (E.2 13 k) v.1.1 v.1.2 v.2.1.1 v.2.1.2).1, if_pos (hl k hk)]
    show F_X11_claimsExceedBounds_B2 N nx k σ = _
    unfold F_X11_claimsExceedBounds_B2
    rw [L.1, if_neg (by omega), inb_in (by omega), l1, l2, k_takenOn hN V L, Option.bind_some, ix, inb_in (by omega), eb, ja_1 (by omega) (by omega)]
    by_cases q : bnd E (gD E) (E.2 5) (E.2 12 k) (E.2 13 k) < takOn E (E.2 12 k) (E.2 13 k)
    · rw [if_neg (by omega), if_pos (decide_eq_true q)]
    · rw [if_pos (by omega), if_neg (fun z => q (of_decide_eq_true z))]) (fun nx => by
    show F_X11_claimsExceedBounds_B2 N nx (dc E : Int) σ = _
    unfold F_X11_claimsExceedBounds_B2
    rw [L.1, if_pos (Int.le_refl _)])
  rw [lp]
  unfold excB
  split <;> rfl
theorem addO_bok {t : Nat} {σ' : Sto} (B : BokR σ t D) (T : PtsR σ' (t + 8) (addO D a b p d)) (e : ∀ x z, t ≤ x → x ≤ t + 7 → σ'.1 x z = σ.1 x z) : BokR σ' t (addO D a b p d) := by
  obtain ⟨B1, B2, B3, B4⟩ := B
  refine ⟨?_, fun m m0 m1 => ?_, fun q q0 q1 => ?_, T⟩
  · rw [addO_row (r := 0) (by omega), e _ _ (by omega) (by omega), e _ _ (by omega) (by omega), e _ _ (by omega) (by omega), e _ _ (by omega) (by omega), e _ _ (by omega) (by omega), e _ _ (by omega) (by omega)]
    exact B1
  · rw [addO_row (r := 1) (by omega), addO_row (r := 2) (by omega), addO_row (r := 3) (by omega), e _ _ (by omega) (by omega), e _ _ (by omega) (by omega), e _ _ (by omega) (by omega)]
    exact B2 m m0 m1
  · rw [addO_row (r := 4) (by omega), addO_row (r := 5) (by omega), addO_row (r := 6) (by omega), addO_row (r := 7) (by omega), e _ _ (by omega) (by omega), e _ _ (by omega) (by omega), e _ _ (by omega) (by omega), e _ _ (by omega) (by omega)]
    exact B3 q q0 q1
theorem x_own (hN : BigN N) (V : Val D) (K : GdD D) (X : XC σ bk D) {u : Nat} (hu : u ≤ 20) (h33 : σ.1 33 1 = u) (a b p d : Int) : ∃ σ1, F_X11_own N a b p d σ = some (rOwn D a b p d, σ1) ∧ FX σ σ1 ∧ ((¬ (okO D a b p d ∧ dn D < 24 ∧ excB (addO D a b p d) = false) ∧ XSame σ σ1 bk D) ∨ ((okO D a b p d ∧ dn D < 24 ∧ excB (addO D a b p d) = false) ∧ XC σ1 bk (addO D a b p d) ∧ PshX σ σ1 3 0 0 0 0)) := by
  have vz := V.sz
  have hb := X.lt
  have hb3 := X.ge
  have hbb : bk + 12 ≤ 28 := by rcases X.1 with h | h <;> omega
  have same : ∀ r, r = rOwn D a b p d → ¬ (okO D a b p d ∧ dn D < 24 ∧ excB (addO D a b p d) = false) → ∃ σ1, some (r, σ) = some (rOwn D a b p d, σ1) ∧ FX σ σ1 ∧ ((¬ (okO D a b p d ∧ dn D < 24 ∧ excB (addO D a b p d) = false) ∧ XSame σ σ1 bk D) ∨ ((okO D a b p d ∧ dn D < 24 ∧ excB (addO D a b p d) = false) ∧ XC σ1 bk (addO D a b p d) ∧ PshX σ σ1 3 0 0 0 0)) := fun r hr h => ⟨σ, by rw [hr], FX.ro RO.rf, Or.inl ⟨h, XSame.ro X RO.rf⟩⟩
  have bad : ¬ okO D a b p d → ∃ σ1, some ((-1 : Int), σ) = some (rOwn D a b p d, σ1) ∧ FX σ σ1 ∧ ((¬ (okO D a b p d ∧ dn D < 24 ∧ excB (addO D a b p d) = false) ∧ XSame σ σ1 bk D) ∨ ((okO D a b p d ∧ dn D < 24 ∧ excB (addO D a b p d) = false) ∧ XC σ1 bk (addO D a b p d) ∧ PshX σ σ1 3 0 0 0 0)) := fun h => same (-1) (by unfold rOwn; rw [if_neg h]) (fun z => h z.1)
  unfold F_X11_own
  rw [k_isPair X, Option.bind_some]
  by_cases h1 : a ≠ b ∧ isM D a ∧ isM D b
  · rw [if_pos h1, if_neg (by decide)]
    by_cases h2 : b < a
    · rw [if_pos h2]; exact bad (fun z => by have := z.1.2.2; omega)
    rw [if_neg h2, k_isDay, Option.bind_some]
    by_cases h3 : isD d
    · rw [if_pos h3, if_neg (by decide)]
      by_cases h4 : p < 0
      · rw [if_pos h4]; exact bad (fun z => by have := z.2.1; omega)
      rw [if_neg h4]
      by_cases h5 : p ≤ 100
      · have ok : okO D a b p d := ⟨⟨h1.2.1, h1.2.2, by have := h1.1; omega⟩, ⟨by omega, h5⟩, h3⟩
        rw [if_pos h5, X.at, X.2.2.1.2.2.2.1]
        by_cases h6 : dn D < 24
        · rw [if_pos (by omega), X.at]
          obtain ⟨σ1, a1, a2, a3, a4⟩ := k_add (N := N) (a := a) (b := b) (p := p) (d := d) h6 X.2.2.1.2.2.2
          have V' := addO_val V h6 ok
          obtain ⟨g1, g2, g3⟩ := addO_g (D := D) (a := a) (b := b) (p := p) (d := d)
          unfold F_X11_forgetNet
          rw [a1, Option.bind_some, Option.bind_some]
          let τ : Sto := upI (upI σ1 0 16 0) 0 17 0
          have t1 : ∀ x z, ¬ (bk + 8 ≤ x ∧ x ≤ bk + 12) → ¬ (x = 0 ∧ (z = 16 ∨ z = 17)) → τ.1 x z = σ.1 x z := fun x z q1 q2 => by
            show (upI (upI σ1 0 16 0) 0 17 0).1 x z = _
            rw [upI_ne (by omega), upI_ne (by omega), a3 x z (by omega)]
          have tP : PtsR τ (bk + 8) (addO D a b p d) := a2.cg (fun x z q1 q2 => by
            show (upI (upI σ1 0 16 0) 0 17 0).1 x z = _
            rw [upI_ne (by omega), upI_ne (by omega)])
          have tL : LedR τ 29 (addO D a b p d) := by
            unfold LedR
            rw [addO_row (r := 12) (by omega), addO_row (r := 13) (by omega), addO_row (r := 14) (by omega)]
            exact X.2.2.2.1.cg (fun x z q1 q2 => t1 x z (by omega) (by omega))
          have tZ : LowZ τ := X.2.2.2.2.1.cg (fun j => t1 _ _ (by omega) (by omega)) (fun j => by show σ1.2 49 j = _; rw [a4])
          have Xt : XC τ bk (addO D a b p d) := XC.mk0 X.1 ((t1 _ _ (by omega) (by omega)).trans X.2.1) (addO_bok X.2.2.1 tP (fun x z q1 q2 => t1 x z (by omega) (by omega))) tL tZ (by show (upI (upI σ1 0 16 0) 0 17 0).1 0 16 = 0; rw [up_ix (by decide), up_same]) up_same
          obtain ⟨σ2, b1, b2, b3, b4, b5, b6⟩ := k_refreshNet hN V' Xt
          show ∃ σ1, (F_X11_refreshNet N τ).bind _ = _ ∧ _
          rw [b1, Option.bind_some, k_exceed hN V' b2 b5 (fun k hk => by
            show lnk _ _ _ _ _ = true
            rw [addO_row (r := 12) (by omega), addO_row (r := 13) (by omega), addO_lnk, g2, g3]
            exact K.1 k hk), Option.bind_some]
          by_cases h7 : excB (addO D a b p d) = true
          · have er : rOwn D a b p d = -3 := by unfold rOwn; rw [if_pos ok, if_neg (by omega), if_pos h7]
            rw [if_pos h7, if_neg (by decide), b2.at]
            unfold F_X7_dropLast
            rw [Option.bind_some, Option.bind_some, er]
            have e4 : jmax 0 (js (σ2.1 (bk + 8) 4) 1) = (dn D : Int) := by
              have : σ2.1 (bk + 8) 4 = ((dn D + 1 : Nat) : Int) := b2.2.2.1.2.2.2.1
              rw [this, js_eq ⟨by omega, by omega⟩, jmax_eq]
              split <;> omega
            rw [e4]
            have fr : ∀ x z, ¬ (bk + 8 ≤ x ∧ x ≤ bk + 12) → ¬ (x = 0 ∧ (z = 16 ∨ z = 17)) → x ≤ 45 ∨ 94 ≤ x → (upI (upI (upI σ2 (bk + 8) 4 (dn D : Int)) 0 16 0) 0 17 0).1 x z = σ.1 x z := fun x z q1 q2 q3 => by
              rw [upI_ne (by omega), upI_ne (by omega), upI_ne (by omega), b3 x z (by omega), t1 x z q1 q2]
            have fx : FX σ (upI (upI (upI σ2 (bk + 8) 4 (dn D : Int)) 0 16 0) 0 17 0) := fun x z q => fr x z (by omega) (by omega) (by omega)
            refine ⟨_, rfl, fx, Or.inl ⟨fun z => by rw [h7] at z; exact absurd z.2.2 (by decide), ⟨?_, fx, fun y z q => fr y z (by omega) (by omega) (by omega)⟩⟩⟩
            refine XC.mk0 X.1 ((fr _ _ (by omega) (by omega) (by omega)).trans X.2.1) ?_ (X.2.2.2.1.cg (fun x z q1 q2 => fr x z (by omega) (by omega) (by omega))) ?_ (by rw [up_ix (by decide), up_same]) up_same
            · obtain ⟨B1, B2, B3, B4⟩ := X.2.2.1
              refine ⟨?_, fun m m0 m1 => ?_, fun q q0 q1 => ?_, ⟨?_, fun k k0 k1 => ?_⟩⟩
              · rw [fr _ _ (by omega) (by omega) (by omega), fr _ _ (by omega) (by omega) (by omega), fr _ _ (by omega) (by omega) (by omega), fr _ _ (by omega) (by omega) (by omega), fr _ _ (by omega) (by omega) (by omega), fr _ _ (by omega) (by omega) (by omega)]
                exact B1
              · rw [fr _ _ (by omega) (by omega) (by omega), fr _ _ (by omega) (by omega) (by omega), fr _ _ (by omega) (by omega) (by omega)]
                exact B2 m m0 m1
              · rw [fr _ _ (by omega) (by omega) (by omega), fr _ _ (by omega) (by omega) (by omega), fr _ _ (by omega) (by omega) (by omega), fr _ _ (by omega) (by omega) (by omega)]
                exact B3 q q0 q1
              · rw [upI_ne (by omega), upI_ne (by omega), up_same]
              · have := b2.2.2.1.2.2.2.2 k k0 (by show k < ((dn D + 1 : Nat) : Int); omega)
                rw [addO_old (by omega), addO_old (by omega), addO_old (by omega), addO_old (by omega)] at this
                have u : ∀ x : Nat, bk + 9 ≤ x → (upI (upI (upI σ2 (bk + 8) 4 (dn D : Int)) 0 16 0) 0 17 0).1 x k = σ2.1 x k := fun x hx => by rw [upI_ne (by omega), upI_ne (by omega), upI_ne (by omega)]
                rw [u _ (by omega), u _ (by omega), u _ (by omega), u _ (by omega)]
                exact this
            · exact b2.2.2.2.2.1.cg (fun j => by rw [upI_ne (by omega), upI_ne (by omega), upI_ne (by omega)]) (fun j => rfl)
          · have er : rOwn D a b p d = (dn D : Int) + 1 := by unfold rOwn; rw [if_pos ok, if_neg (by omega), if_neg h7]
            have h33' : σ2.1 33 1 = u := by rw [b3 _ _ (by omega), t1 _ _ (by omega) (by omega)]; exact h33
            obtain ⟨σ3, p1, p2, p3, p4⟩ := k_push hN hu h33' 3 0 0 0 0
            have e01 : σ3.1 0 1 = bk := (p3 _ _ (by decide) (by decide)).trans b2.2.1
            have e4 : σ3.1 (bk + 8) 4 = (dn D : Int) + 1 := by
              rw [p3 _ _ (by omega) (by omega)]
              have : σ2.1 (bk + 8) 4 = ((dn D + 1 : Nat) : Int) := b2.2.2.1.2.2.2.1
              rw [this]; omega
            rw [if_neg h7, if_pos rfl, p1, Option.bind_some, e01, asB_in X.1, e4, er]
            refine ⟨σ3, rfl, fun x z q => ?_, Or.inr ⟨⟨ok, h6, b_ne h7⟩, ?_, ?_⟩⟩
            · rw [p3 x z (by omega) (by omega), b3 x z (by omega), t1 x z (by omega) (by omega)]
            · have L3 : LedR σ3 29 (addO D a b p d) := b2.2.2.2.1.cg (fun x z q1 q2 => p3 x z (by omega) (by omega))
              refine ⟨b2.1, e01, b2.2.2.1.cg (fun x z q1 q2 => p3 x z (by omega) (by omega)), L3, b2.2.2.2.2.1.cg (fun j => p3 _ _ (by decide) (by decide)) (fun j => by rw [p4]), Or.inr ⟨(p3 _ _ (by decide) (by decide)).trans b4, ⟨b5.1.cg (fun x z q1 q2 => p3 x z (by omega) (by omega)), b5.2.cg (fun x z q => p3 x z (by omega) (by omega))⟩⟩, Or.inl ?_⟩
              rw [p3 _ _ (by decide) (by decide), b6 0 17 (Or.inr ⟨rfl, rfl⟩)]
              exact up_same
            · exact p2.cg (fun y z q => by rw [b3 y z (by omega), t1 y z (by omega) (by omega)]) (fun _ _ _ => rfl)
        · rw [if_neg (by omega)]
          exact same (-2) (by unfold rOwn; rw [if_pos ok, if_pos (by omega)]) (fun z => h6 z.2.1)
      · rw [if_neg h5]; exact bad (fun z => by have := z.2.1; omega)
    · rw [if_neg h3, if_pos rfl]; exact bad (fun z => h3 z.2.2)
  · rw [if_neg h1, if_pos rfl]; exact bad (fun z => h1 ⟨by have := z.1.2.2; omega, z.1.1, z.1.2.1⟩)
end OWN
