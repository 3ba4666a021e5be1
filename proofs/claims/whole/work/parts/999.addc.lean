/-! ONE CLAIM MORE: the desk, the ledger, the bank -/
def addC (D : Dk) (i j n : Int) : Dk := ((dm D, dp D, dn D, dc D + 1), fun r x => if x = (dc D : Int) ∧ 12 ≤ r then (if r = 12 then i else if r = 13 then j else n) else D.2 r x)
/-- the same but for the CLAIMS -/
def Sm (D E : Dk) : Prop := (dm E = dm D ∧ dp E = dp D ∧ dn E = dn D) ∧ ∀ r, r < 12 → E.2 r = D.2 r
theorem Sm.rf {D : Dk} : Sm D D := ⟨⟨rfl, rfl, rfl⟩, fun _ _ => rfl⟩
theorem Sm.tr {D E G : Dk} (h : Sm D E) (h' : Sm E G) : Sm D G := ⟨⟨h'.1.1.trans h.1.1, h'.1.2.1.trans h.1.2.1, h'.1.2.2.trans h.1.2.2⟩, fun r q => (h'.2 r q).trans (h.2 r q)⟩
theorem Sm.sim {D E : Dk} (h : Sm D E) : Sim D E := ⟨h.1, fun r _ _ q => h.2 r q, by rw [h.2 0 (by decide)], by rw [h.2 0 (by decide)], by rw [h.2 0 (by decide)]⟩
theorem Sm.g {D E : Dk} (h : Sm D E) : gD E = gD D ∧ cD E = cD D ∧ E.2 5 = D.2 5 := ⟨by show E.2 0 0 = _; rw [h.2 0 (by decide)], by show E.2 0 3 = _; rw [h.2 0 (by decide)], h.2 5 (by decide)⟩
theorem addC_row {D : Dk} {i j n : Int} {r : Nat} (h : r < 12) : (addC D i j n).2 r = D.2 r := by
  funext x
  show (if x = (dc D : Int) ∧ 12 ≤ r then _ else D.2 r x) = D.2 r x
  rw [if_neg (by omega)]
theorem addC_sm (D : Dk) (i j n : Int) : Sm D (addC D i j n) := ⟨⟨rfl, rfl, rfl⟩, fun _ h => addC_row h⟩
theorem addC_old {D : Dk} {i j n : Int} {r : Nat} {x : Int} (h : x ≠ dc D) : (addC D i j n).2 r x = D.2 r x := if_neg (fun z => h z.1)
theorem addC_12 {D : Dk} {i j n : Int} : (addC D i j n).2 12 (dc D) = i ∧ (addC D i j n).2 13 (dc D) = j ∧ (addC D i j n).2 14 (dc D) = n := by
  refine ⟨?_, ?_, ?_⟩
  · show (if (dc D : Int) = (dc D : Int) ∧ 12 ≤ 12 then _ else _) = i
    rw [if_pos ⟨rfl, by decide⟩, if_pos rfl]
  · show (if (dc D : Int) = (dc D : Int) ∧ 12 ≤ 13 then _ else _) = j
    rw [if_pos ⟨rfl, by decide⟩, if_neg (by decide), if_pos rfl]
  · show (if (dc D : Int) = (dc D : Int) ∧ 12 ≤ 14 then _ else _) = n
    rw [if_pos ⟨rfl, by decide⟩, if_neg (by decide), if_neg (by decide)]
section ADD
variable {D E : Dk} {i j n : Int}
theorem addC_dc : dc (addC D i j n) = dc D + 1 := rfl
theorem addC_val (V : Val D) (hc : dc D < 30) (hi : isP D i) (hj : isP D j) (n1 : 1 ≤ n) (n2 : n ≤ 99999) : Val (addC D i j n) := by
  have vz := V.sz
  refine ⟨⟨vz.1, vz.2.1, vz.2.2.1, by show dc D + 1 ≤ 30; omega⟩, ?_, ?_, ?_, ?_, fun k k0 k1 => ?_⟩
  · rw [addC_row (by decide)]; exact V.sc
  · rw [addC_row (by decide), addC_row (by decide)]; exact V.2.2.1
  · rw [addC_row (by decide), addC_row (by decide), addC_row (by decide), addC_row (by decide)]; exact V.2.2.2.1
  · rw [addC_row (by decide), addC_row (by decide), addC_row (by decide), addC_row (by decide)]; exact V.2.2.2.2.1
  · have k1 : k < ((dc D + 1 : Nat) : Int) := k1
    by_cases e : k = dc D
    · subst e
      rw [addC_12.1, addC_12.2.1, addC_12.2.2]
      exact ⟨hi, hj, n1, n2⟩
    · rw [addC_old e, addC_old e, addC_old e]
      exact V.clm k0 (by omega)
theorem takOf_add (p : Int) : takOf (addC D i j n) p = takOf D p + (if i = p ∨ j = p then n else 0) := by
  unfold takOf
  show sumTo (takF (addC D i j n) p) (dc D) + takF (addC D i j n) p (dc D) = _
  congr 1
  · refine sumTo_congr (fun k hk => ?_)
    unfold takF
    rw [addC_old (by omega), addC_old (by omega), addC_old (by omega)]
  · unfold takF
    rw [addC_12.1, addC_12.2.1, addC_12.2.2]
theorem takOn_add (x y : Int) : takOn (addC D i j n) x y = takOn D x y + (if i = x ∧ j = y then n else 0) := by
  unfold takOn
  show sumTo (tonF (addC D i j n) x y) (dc D) + tonF (addC D i j n) x y (dc D) = _
  congr 1
  · refine sumTo_congr (fun k hk => ?_)
    unfold tonF
    rw [addC_old (by omega), addC_old (by omega), addC_old (by omega)]
  · unfold tonF
    rw [addC_12.1, addC_12.2.1, addC_12.2.2]
theorem opn_add (p : Int) : opn (addC D i j n) p = opn D p - (if i = p ∨ j = p then n else 0) := by
  unfold opn
  rw [takOf_add, addC_row (by decide)]
  omega
theorem gd_add {g c : Int} {F : Int → Int} (K : Gd D g c F) (lk : lnk D c F i j = true) (h1 : n ≤ bnd D g F i j - takOn D i j) (h2 : n ≤ opn D i) (h3 : n ≤ opn D j) : Gd (addC D i j n) g c F := by
  have S := (addC_sm D i j n).sim
  refine ⟨fun k hk => ?_, fun x y h => ?_, fun p p0 p1 => ?_⟩
  · have hk : k < dc D + 1 := hk
    rw [S.lnk']
    by_cases e : k = dc D
    · subst e; rw [addC_12.1, addC_12.2.1]; exact lk
    · rw [addC_old (by omega), addC_old (by omega)]; exact K.1 k (by omega)
  · rw [S.lnk'] at h
    rw [takOn_add, S.bnd']
    have := K.2.1 x y h
    split
    · rename_i q; obtain ⟨rfl, rfl⟩ := q; omega
    · omega
  · rw [opn_add]
    have := K.2.2 p p0 p1
    split
    · rename_i q
      rcases q with rfl | rfl <;> omega
    · omega
theorem Sm.bok {σ : Sto} {b : Nat} (S : Sm D E) (h : BokR σ b D) : BokR σ b E := by
  obtain ⟨⟨s1, s2, s3⟩, s4⟩ := S
  unfold BokR PtsR
  rw [s1, s2, s3, s4 0 (by decide), s4 1 (by decide), s4 2 (by decide), s4 3 (by decide), s4 4 (by decide), s4 5 (by decide), s4 6 (by decide), s4 7 (by decide), s4 8 (by decide), s4 9 (by decide), s4 10 (by decide), s4 11 (by decide)]
  exact h
theorem Sm.txm {σ : Sto} (S : Sm D E) (h : TxM σ D) : TxM σ E := by
  obtain ⟨⟨s1, s2, s3⟩, s4⟩ := S
  unfold TxM
  rw [s1, s2, s4 0 (by decide), s4 1 (by decide), s4 2 (by decide), s4 3 (by decide), s4 4 (by decide), s4 5 (by decide), s4 6 (by decide)]
  exact h
theorem Sm.net {σ : Sto} {t : Nat} {g c : Int} {F : Int → Int} (S : Sm D E) (h : NetR σ t D g c F) : NetR σ t E g c F := by
  unfold NetR
  rw [S.1.2.1, S.sim.lnk', S.sim.bnd', S.sim.prc']
  exact h
theorem Sm.netF {σ : Sto} (S : Sm D E) (h : NetF σ D) : NetF σ E := by
  unfold NetF
  rw [S.g.1, S.g.2.1, S.g.2.2]
  exact ⟨S.sim.kin h.1, S.net h.2⟩
end ADD
section ADD2
variable {N : Nat} {σ : Sto} {b : Nat} {D E : Dk} {i j n : Int}
/-- a claim more at the ledger's end -/
theorem k_insEnd (hN : BigN N) {l : Nat} (L : LedR σ l E) (hc : dc E < 30) : ∃ σ', F_X5_insert N l (dc E : Int) i j n σ = some σ' ∧ LedR σ' l (addC E i j n) ∧ (∀ a z, ¬ (l ≤ a ∧ a ≤ l + 3) → σ'.1 a z = σ.1 a z) ∧ σ'.2 = σ.2 := by
  have hN1 : ∃ m, N = m + 1 := ⟨N - 1, by have := bigN hN (k := 1); omega⟩
  obtain ⟨m, hm⟩ := hN1
  unfold F_X5_insert
  rw [if_neg (by omega), L.1, if_neg (by omega), if_pos (by omega), hm]
  show ∃ σ', F_X5_insert_B28 (m + 1) _ l (dc E : Int) i j n (dc E : Int) σ = some σ' ∧ _
  unfold F_X5_insert_B28 F_X5_insert_J88
  rw [if_pos (Int.le_refl _), inb_in (by omega)]
  have e3 : (upI (upI (upI σ (l + 1) (dc E : Int) i) (l + 2) (dc E : Int) j) (l + 3) (dc E : Int) n).1 l 3 = (dc E : Int) := by
    rw [up_pl (by omega), up_pl (by omega), up_pl (by omega)]; exact L.1
  rw [e3, ja_1 (by omega) (by omega)]
  refine ⟨_, rfl, ⟨?_, fun k k0 k1 => ?_⟩, fun a z h => ?_, rfl⟩
  · rw [up_same]; show (dc E : Int) + 1 = ((dc E + 1 : Nat) : Int); omega
  · have k1 : k < ((dc E + 1 : Nat) : Int) := k1
    by_cases e : k = dc E
    · subst e
      rw [addC_12.1, addC_12.2.1, addC_12.2.2]
      refine ⟨?_, ?_, ?_⟩
      · rw [up_pl (by omega), up_pl (by omega), up_pl (by omega), up_same]
      · rw [up_pl (by omega), up_pl (by omega), up_same]
      · rw [up_pl (by omega), up_same]
    · rw [addC_old e, addC_old e, addC_old e]
      have l := L.2 k k0 (by omega)
      refine ⟨?_, ?_, ?_⟩
      · rw [up_pl (by omega), up_ix e, up_ix e, up_ix e]; exact l.1
      · rw [up_pl (by omega), up_ix e, up_ix e, up_ix e]; exact l.2.1
      · rw [up_pl (by omega), up_ix e, up_ix e, up_ix e]; exact l.2.2
  · rw [up_pl (by omega), up_pl (by omega), up_pl (by omega), up_pl (by omega)]
theorem k_openOfE (hN : BigN N) (V : Val E) (S : Sm D E) (X : XC σ b D) {l : Nat} (L : LedR σ l E) {p : Int} (h : isP D p) : F_X11_openOf N l p σ = some (opn E p) := by
  have h' : isP E p := ⟨h.1, by rw [S.1.2.1]; exact h.2⟩
  have vz := V.sz
  have r := (V.per h'.1 h'.2).2.2
  have t := takOf_bd V p
  have rb := rabs_bd V h'.1 h'.2
  unfold F_X11_openOf opn
  rw [X.at, inb_in (by omega), k_takenOf hN V L, Option.bind_some, ((S.bok X.2.2.1).2.2.1 p h'.1 h'.2).2.2.2, jabs_eq (by omega) (by omega)]
  show some (js (rabs (E.2 7 p)) (takOf E p)) = _
  rw [js_eq ⟨by omega, by omega⟩]
/-- what may be claimed -/
def canE (E : Dk) (i j n : Int) : Prop := n ≤ bnd E (gD E) (E.2 5) i j - takOn E i j ∧ n ≤ opn E i ∧ n ≤ opn E j
/-- a claim entered, or not -/
theorem k_enter (hN : BigN N) (VD : Val D) (V : Val E) (S : Sm D E) (X : XC σ b D) {l : Nat} (hl : l = 29 ∨ l = 73) (L : LedR σ l E) (i j n : Int) : ∃ σ1, XC σ1 b D ∧ RO σ σ1 ∧ LedR σ1 l E ∧ (((¬ (1 ≤ n ∧ n ≤ 99999) ∨ lkD D i j = false) ∧ F_X11_enter N l i j n σ = some (-1, σ1)) ∨ ((1 ≤ n ∧ n ≤ 99999) ∧ lkD D i j = true ∧ NetF σ1 D ∧ ((dc E = 30 ∧ F_X11_enter N l i j n σ = some (-2, σ1)) ∨ (dc E < 30 ∧ ¬ canE E i j n ∧ F_X11_enter N l i j n σ = some (-3, σ1)) ∨ (dc E < 30 ∧ canE E i j n ∧ ∃ σ', F_X11_enter N l i j n σ = some ((dc E : Int), σ') ∧ LedR σ' l (addC E i j n) ∧ (∀ a z, ¬ (l ≤ a ∧ a ≤ l + 3) → σ'.1 a z = σ1.1 a z) ∧ σ'.2 = σ1.2)))) := by
  have vz := V.sz
  have vd := VD.sz
  obtain ⟨σ1, a1, a2, a3, a4, a5⟩ := k_isLink hN VD X i j
  have L1 : LedR σ1 l E := L.cg (fun a z h1 h2 => by
    rcases hl with rfl | rfl
    · exact a3 a z (by omega)
    · exact a5 a z (by omega))
  unfold F_X11_enter
  by_cases h1 : n < 1
  · exact ⟨σ, X, RO.rf, L, Or.inl ⟨Or.inl (by omega), by rw [if_pos h1]⟩⟩
  · rw [if_neg h1]
    by_cases h2 : 99999 < n
    · exact ⟨σ, X, RO.rf, L, Or.inl ⟨Or.inl (by omega), by rw [if_pos h2]⟩⟩
    · rw [if_neg h2, a1, Option.bind_some]
      by_cases hk : lkD D i j = true
      · have q := (lk_bd VD hk)
        obtain ⟨q, q2, q3⟩ := q
        have ix : ja (jm i 12) j = 12 * i + j := ix12 (by omega) (by omega) (by omega) (by omega)
        have eb : σ1.1 56 (12 * i + j) = bnd E (gD E) (E.2 5) i j := by
          rw [((a4 hk).2 i j (by omega) (by omega) (by omega) (by omega)).1, if_pos hk, S.g.1, S.g.2.2, S.sim.bnd']
        have qb : 0 ≤ bnd E (gD E) (E.2 5) i j ∧ bnd E (gD E) (E.2 5) i j ≤ 99999000 := by rw [S.g.1, S.g.2.2, S.sim.bnd']; exact ⟨q2, q3⟩
        have tb := takOn_bd V i j
        refine ⟨σ1, a2, a3, L1, Or.inr ⟨by omega, hk, a4 hk, ?_⟩⟩
        show (dc E = 30 ∧ (if (if lkD D i j = true then (1 : Int) else 0) = 0 then _ else _) = _) ∨ _
        rw [if_pos hk, if_neg (by decide)]
        show (dc E = 30 ∧ (if σ1.1 l 3 < 30 then _ else _) = _) ∨ (dc E < 30 ∧ ¬ canE E i j n ∧ (if σ1.1 l 3 < 30 then _ else _) = _) ∨ (dc E < 30 ∧ canE E i j n ∧ ∃ σ', (if σ1.1 l 3 < 30 then _ else _) = _ ∧ _)
        rw [L1.1]
        by_cases hc : dc E < 30
        · rw [if_pos (by omega)]
          show (dc E = 30 ∧ inb (ja (jm i 12) j) 144 ((F_X5_takenOn N l i j σ1).bind _) = _) ∨ (dc E < 30 ∧ ¬ canE E i j n ∧ inb (ja (jm i 12) j) 144 ((F_X5_takenOn N l i j σ1).bind _) = _) ∨ (dc E < 30 ∧ canE E i j n ∧ ∃ σ', inb (ja (jm i 12) j) 144 ((F_X5_takenOn N l i j σ1).bind _) = _ ∧ _)
          rw [ix, inb_in (by omega), k_takenOn hN V L1, Option.bind_some, eb, js_eq ⟨by omega, by omega⟩, k_openOfE hN V S a2 L1 ⟨by omega, by omega⟩, Option.bind_some, k_openOfE hN V S a2 L1 ⟨by omega, by omega⟩, Option.bind_some]
          by_cases c1 : bnd E (gD E) (E.2 5) i j - takOn E i j < n
          · rw [if_pos c1]
            exact Or.inr (Or.inl ⟨hc, fun z => by unfold canE at z; omega, rfl⟩)
          · rw [if_neg c1]
            by_cases c2 : opn E i < n
            · rw [if_pos c2]
              exact Or.inr (Or.inl ⟨hc, fun z => by unfold canE at z; omega, rfl⟩)
            · rw [if_neg c2]
              by_cases c3 : n ≤ opn E j
              · rw [if_pos c3]
                obtain ⟨σ2, d1, d2, d3, d4⟩ := k_insEnd (i := i) (j := j) (n := n) hN L1 hc
                refine Or.inr (Or.inr ⟨hc, ⟨by omega, by omega, c3⟩, σ2, ?_, d2, d3, d4⟩)
                show (F_X5_insert N l (dc E : Int) i j n σ1).bind _ = _
                rw [d1, Option.bind_some, d2.1]
                show some (js ((dc E + 1 : Nat) : Int) 1, σ2) = _
                rw [js_eq ⟨by omega, by omega⟩, show ((dc E + 1 : Nat) : Int) - 1 = (dc E : Int) by omega]
              · rw [if_neg c3]
                exact Or.inr (Or.inl ⟨hc, fun z => by unfold canE at z; omega, rfl⟩)
        · rw [if_neg (by omega)]
          exact Or.inl ⟨by omega, rfl⟩
      · refine ⟨σ1, a2, a3, L1, Or.inl ⟨Or.inr (b_ne hk), ?_⟩⟩
        show (if (if lkD D i j = true then (1 : Int) else 0) = 0 then _ else _) = _
        rw [if_neg hk, if_pos rfl]
/-! the reference -/
theorem m_lay {k0 k v : Int} (hb : k0 = 0 ∨ k0 = 1) (h24 : σ.1 94 24 = k0) (h0 : 0 ≤ k) (h1 : k < 200) : F_X12_lay N k v σ = some (upI σ 101 (200 * k0 + k) v) := by
  unfold F_X12_lay
  have e : ja (jm 200 (σ.1 94 24)) k = 200 * k0 + k := by rw [h24, jm_eq ⟨by omega, by omega⟩, ja_eq ⟨by omega, by omega⟩]
  rw [e, inb_in (by omega)]
theorem m_copyBank (hN : BigN N) {f t : Nat} (hf : f ≤ 22) (ht : t ≤ 22) (hne : f ≠ t) : ∃ σ', F_X12_copyBank N f t σ = some σ' ∧ (∀ k : Int, 0 ≤ k → k < 200 → σ'.1 101 (200 * t + k) = σ.1 101 (200 * f + k)) ∧ (∀ a z, ¬ (a = 101 ∧ 200 * (t : Int) ≤ z ∧ z < 200 * t + 200) → σ'.1 a z = σ.1 a z) ∧ σ'.2 = σ.2 := by
  unfold F_X12_copyBank
  obtain ⟨s, ⟨h1, h2, h3, h4⟩, h5⟩ := loop_A (b := fun q nx2 => F_X12_copyBank_B2 N nx2 f t q.1 q.2) (fin := fun s => some s.2) (N := N) (s0 := ((0 : Int), σ)) (fun k s => s.1 = k ∧ (∀ x : Int, 0 ≤ x → x < k → s.2.1 101 (200 * t + x) = σ.1 101 (200 * f + x)) ∧ (∀ a z, ¬ (a = 101 ∧ 200 * (t : Int) ≤ z ∧ z < 200 * t + 200) → s.2.1 a z = σ.1 a z) ∧ s.2.2 = σ.2) 200 (bigN hN) ⟨rfl, fun x a c => by omega, fun _ _ _ => rfl, rfl⟩ (fun k s hk hI => by
    obtain ⟨v, τ⟩ := s
    obtain ⟨i1, i2, i3, i4⟩ := hI
    have i1 : v = k := i1
    subst i1
    have e1 : ja (jm 200 (f : Int)) (k : Int) = 200 * f + k := by rw [jm_eq ⟨by omega, by omega⟩, ja_eq ⟨by omega, by omega⟩]
    have e2 : ja (jm 200 (t : Int)) (k : Int) = 200 * t + k := by rw [jm_eq ⟨by omega, by omega⟩, ja_eq ⟨by omega, by omega⟩]
    refine ⟨((k : Int) + 1, upI τ 101 (200 * t + k) (τ.1 101 (200 * f + k))), ⟨by show (k : Int) + 1 = ((k + 1 : Nat) : Int); omega, fun x a c => ?_, fun a z h => ?_, i4⟩, fun nx => ?_⟩
    · show (upI τ 101 (200 * t + k) (τ.1 101 (200 * f + k))).1 101 _ = _
      by_cases e : x = k
      · subst e
        rw [up_same]
        exact i3 _ _ (by omega)
      · rw [up_ix (by omega)]
        exact i2 x a (by omega)
    · show (upI τ 101 (200 * t + k) (τ.1 101 (200 * f + k))).1 a z = _
      rw [upI_ne (by omega)]
      exact i3 a z h
    · show F_X12_copyBank_B2 N nx f t k τ = _
      unfold F_X12_copyBank_B2
      rw [if_neg (by omega), e1, inb_in (by omega), e2, inb_in (by omega), ja_1 (by omega) (by omega)]) (fun s hI nx => by
    obtain ⟨v, τ⟩ := s
    have i1 : v = ((200 : Nat) : Int) := hI.1
    show F_X12_copyBank_B2 N nx f t v τ = some τ
    unfold F_X12_copyBank_B2
    rw [i1, if_pos (by omega)])
  exact ⟨s.2, h5, h2, h3, h4⟩
theorem BkM.cp {σ' : Sto} {f t : Int} (V : Val D) (h : BkM σ f D) (e : ∀ k : Int, 0 ≤ k → k < 200 → σ'.1 101 (200 * t + k) = σ.1 101 (200 * f + k)) : BkM σ' t D := by
  have vz := V.sz
  obtain ⟨⟨h1, h2⟩, h3, h4, h5⟩ := h
  refine ⟨⟨?_, ?_⟩, fun k k0 k1 => ?_, fun p p0 p1 => ?_, fun k k0 k1 => ?_⟩
  · have := e 0 (by omega) (by omega)
    rw [Int.add_zero, Int.add_zero] at this
    rw [this]; exact h1
  · rw [e _ (by omega) (by omega)]; exact h2
  · rw [e _ (by omega) (by omega), e _ (by omega) (by omega), e _ (by omega) (by omega)]; exact h3 k k0 k1
  · rw [e _ (by omega) (by omega)]; exact h4 p p0 p1
  · rw [e _ (by omega) (by omega), e _ (by omega) (by omega), e _ (by omega) (by omega), e _ (by omega) (by omega)]; exact h5 k k0 k1
theorem m_claims (V : Val D) {k0 : Int} (hb : k0 = 0 ∨ k0 = 1) (h24 : σ.1 94 24 = k0) (B : BkM σ k0 D) (hc : dc D < 30) (i j n : Int) : ∃ σ', F_X12_claims N i j n σ = some σ' ∧ BkM σ' k0 (addC D i j n) ∧ (∀ a z, ¬ (a = 101 ∧ 200 * k0 ≤ z ∧ z < 200 * k0 + 200) → σ'.1 a z = σ.1 a z) ∧ σ'.2 = σ.2 := by
  have vz := V.sz
  obtain ⟨⟨h1, h2⟩, h3, h4, h5⟩ := B
  have o0 : F_X12_of N 0 σ = some (dc D : Int) := by rw [m_ofr hb h24 (by omega) (by omega), Int.add_zero, h1]
  have ix : ja 1 (jm 3 (dc D : Int)) = 1 + 3 * dc D := i3 (by omega) (by omega)
  unfold F_X12_claims
  rw [o0, Option.bind_some, ix, m_lay hb h24 (by omega) (by omega), Option.bind_some, ja_eq ⟨by omega, by omega⟩, ja_eq ⟨by omega, by omega⟩, m_lay hb (by rw [up_pl (by decide)]; exact h24) (by omega) (by omega), Option.bind_some, m_lay hb (by rw [up_pl (by decide), up_pl (by decide)]; exact h24) (by omega) (by omega), Option.bind_some, m_ofr hb (by rw [up_pl (by decide), up_pl (by decide), up_pl (by decide)]; exact h24) (by omega) (by omega), Option.bind_some, m_lay hb (by rw [up_pl (by decide), up_pl (by decide), up_pl (by decide)]; exact h24) (by omega) (by omega), Option.bind_some]
  have e0 : (upI (upI (upI σ 101 (200 * k0 + (1 + 3 * dc D)) i) 101 (200 * k0 + (1 + 3 * dc D + 1)) j) 101 (200 * k0 + (1 + 3 * dc D + 2)) n).1 101 (200 * k0 + 0) = (dc D : Int) := by
    rw [up_ix (by omega), up_ix (by omega), up_ix (by omega), Int.add_zero]; exact h1
  rw [e0, ja_1 (by omega) (by omega), Int.add_zero]
  refine ⟨_, rfl, ⟨⟨?_, ?_⟩, fun k a c => ?_, fun p a c => ?_, fun k a c => ?_⟩, fun a z h => ?_, rfl⟩
  · rw [up_same]; show (dc D : Int) + 1 = ((dc D + 1 : Nat) : Int); omega
  · rw [up_ix (by omega), up_ix (by omega), up_ix (by omega), up_ix (by omega)]; exact h2
  · have c : k < ((dc D + 1 : Nat) : Int) := c
    by_cases e : k = dc D
    · subst e
      rw [addC_12.1, addC_12.2.1, addC_12.2.2]
      refine ⟨?_, ?_, ?_⟩
      · rw [up_ix (by omega), up_ix (by omega), up_ix (by omega), up_same]
      · rw [up_ix (by omega), up_ix (by omega), up_same]
      · rw [up_ix (by omega), up_same]
    · rw [addC_old e, addC_old e, addC_old e]
      have := h3 k a (by omega)
      refine ⟨?_, ?_, ?_⟩
      · rw [up_ix (by omega), up_ix (by omega), up_ix (by omega), up_ix (by omega)]; exact this.1
      · rw [up_ix (by omega), up_ix (by omega), up_ix (by omega), up_ix (by omega)]; exact this.2.1
      · rw [up_ix (by omega), up_ix (by omega), up_ix (by omega), up_ix (by omega)]; exact this.2.2
  · have c : p < (dp D : Int) := c
    rw [addC_row (by decide), up_ix (by omega), up_ix (by omega), up_ix (by omega), up_ix (by omega)]; exact h4 p a c
  · have c : k < (dn D : Int) := c
    rw [addC_row (by decide), addC_row (by decide), addC_row (by decide), addC_row (by decide)]
    have := h5 k a c
    refine ⟨?_, ?_, ?_, ?_⟩
    · rw [up_ix (by omega), up_ix (by omega), up_ix (by omega), up_ix (by omega)]; exact this.1
    · rw [up_ix (by omega), up_ix (by omega), up_ix (by omega), up_ix (by omega)]; exact this.2.1
    · rw [up_ix (by omega), up_ix (by omega), up_ix (by omega), up_ix (by omega)]; exact this.2.2.1
    · rw [up_ix (by omega), up_ix (by omega), up_ix (by omega), up_ix (by omega)]; exact this.2.2.2
  · rw [upI_ne (by omega), upI_ne (by omega), upI_ne (by omega), upI_ne (by omega)]
theorem m_canClaim (hN : BigN N) (V : Val D) (M : ModR σ D) (S : StrM σ D (gD D)) (lk : lkD D i j = true) : F_X12_canClaim N i j n σ = some (@ite Int (canE D i j n) (Classical.propDecidable _) 1 0) := by
  obtain ⟨q, q2, q3⟩ := lk_bd V lk
  have tb := takOn_bd V i j
  unfold F_X12_canClaim F_X12_canClaim_J39
  rw [m_boundOf hN V M S (by omega) (by omega) (by omega) (by omega) (by omega) (by omega), Option.bind_some, m_claimedBy hN M V, Option.bind_some, js_eq ⟨by omega, by omega⟩, m_openOf hN M V (by omega) (by omega), Option.bind_some, m_openOf hN M V (by omega) (by omega), Option.bind_some]
  by_cases c : canE D i j n
  · rw [if_pos c, if_neg (by have := c.1; omega), if_neg (by have := c.2.1; omega), if_neg (by have := c.2.2; omega)]
  · rw [if_neg c]
    by_cases c1 : bnd D (gD D) (D.2 5) i j - takOn D i j < n
    · rw [if_pos c1]
    · rw [if_neg c1]
      by_cases c2 : opn D i < n
      · rw [if_pos c2]
      · rw [if_neg c2, if_pos (by
          rcases Int.lt_or_le (opn D j) n with z | z
          · exact z
          · exact absurd ⟨by omega, by omega, z⟩ c)]
end ADD2
