/-! CLAIM, a RESULT: what changes -/
def FX (σ σ' : Sto) : Prop := ∀ a j, (a = 0 ∧ j ≠ 16 ∧ j ≠ 17) ∨ a = 1 ∨ a = 2 ∨ (35 ≤ a ∧ a ≤ 45) ∨ 94 ≤ a → σ'.1 a j = σ.1 a j
def FM (σ σ' : Sto) : Prop := (∀ a j, a < 94 ∨ 113 ≤ a ∨ (a = 94 ∧ (j = 1 ∨ (3 ≤ j ∧ j ≤ 23) ∨ j = 26)) ∨ (95 ≤ a ∧ a ≤ 100) ∨ (a = 101 ∧ 400 ≤ j ∧ j < 600) → σ'.1 a j = σ.1 a j) ∧ ∀ j, σ'.2 49 j = σ.2 49 j
theorem FX.ro {σ σ' : Sto} (h : RO σ σ') : FX σ σ' := fun a j q => h a j (by omega)
theorem FX.tr {σ σ1 σ2 : Sto} (h1 : FX σ σ1) (h2 : FX σ1 σ2) : FX σ σ2 := fun a j q => (h2 a j q).trans (h1 a j q)
theorem FM.mo {σ σ' : Sto} (h : MO σ σ') : FM σ σ' := ⟨fun a j q => h.1 a j (by omega), h.2⟩
theorem FM.tr {σ σ1 σ2 : Sto} (h1 : FM σ σ1) (h2 : FM σ1 σ2) : FM σ σ2 := ⟨fun a j q => (h2.1 a j q).trans (h1.1 a j q), fun j => (h2.2 j).trans (h1.2 j)⟩
section MUT
variable {N : Nat} {σ σ' : Sto} {b : Nat} {D E : Dk}
/-- other CLAIMS: the net stands -/
theorem XC.mut (X : XC σ b D) (S : Sm D E) (L : LedR σ' 29 E) (e : ∀ a j, (a ≤ 28 ∧ ¬ (a = 0 ∧ j = 17)) ∨ (46 ≤ a ∧ a ≤ 57) → σ'.1 a j = σ.1 a j) (e2 : ∀ j, σ'.2 49 j = σ.2 49 j) (h17 : σ'.1 0 17 = 0) : XC σ' b E := by
  have hb := X.lt
  have hb3 := X.ge
  have hbb : b + 12 ≤ 28 := by rcases X.1 with h | h <;> omega
  refine ⟨X.1, by rw [e _ _ (by omega)]; exact X.2.1, S.bok (X.2.2.1.cg (fun a j p q => e a j (by omega))), L, X.2.2.2.2.1.cg (fun j => e _ _ (by omega)) e2, ?_, Or.inl h17⟩
  rcases X.2.2.2.2.2.1 with h | ⟨h1, h2⟩
  · exact Or.inl (by rw [e _ _ (by omega)]; exact h)
  · exact Or.inr ⟨by rw [e _ _ (by omega)]; exact h1, S.netF ⟨h2.1.cg (fun a j p q => e a j (by omega)), h2.2.cg (fun a j p => e a j (by omega))⟩⟩
theorem XC.mk0 (hb : b = 3 ∨ b = 16) (h1 : σ'.1 0 1 = b) (B : BokR σ' b E) (L : LedR σ' 29 E) (Z : LowZ σ') (h16 : σ'.1 0 16 = 0) (h17 : σ'.1 0 17 = 0) : XC σ' b E := ⟨hb, h1, B, L, Z, Or.inl h16, Or.inl h17⟩
/-- the reference's desk of now -/
theorem MK.b0 (M : MK σ D) : BkM σ 0 D := by
  obtain ⟨k0, hk, h2, h3⟩ := M.1.2
  rw [M.2.1] at h2
  rw [h2]; exact h3
theorem MK.mut (M : MK σ D) (T : TxM σ D → TxM σ E) (h3 : E.2 0 3 = D.2 0 3) (B : BkM σ' 0 E) (e : ∀ a j, (a = 94 ∧ (j = 11 ∨ j = 14 ∨ j = 24 ∨ j = 31 ∨ j = 32 ∨ j = 33 ∨ j = 38)) ∨ (95 ≤ a ∧ a ≤ 100) → σ'.1 a j = σ.1 a j) : MK σ' E := ⟨⟨(T M.1.1).cg (fun j q => e _ _ (by omega)) (fun j => e _ _ (by omega)) (fun j => e _ _ (by omega)) (fun j _ => e _ _ (by omega)), 0, Or.inl rfl, (e _ _ (by omega)).trans M.2.1, B⟩, (e _ _ (by omega)).trans M.2.1, (e _ _ (by omega)).trans M.2.2.1, (e _ _ (by omega)).trans M.2.2.2.1, by rw [e _ _ (by omega), h3]; exact M.2.2.2.2⟩
noncomputable def rClaim (D : Dk) (i j n : Int) : Int := if (1 ≤ n ∧ n ≤ 99999) ∧ lkD D i j = true then (if dc D = 30 then -2 else @ite Int (canE D i j n) (Classical.propDecidable _) (dc D) (-3)) else -1
theorem x_claim (hN : BigN N) (V : Val D) (X : XC σ b D) {u : Nat} (hu : u ≤ 20) (h33 : σ.1 33 1 = u) (i j n : Int) : ∃ σ1, F_X11_claim N i j n σ = some (rClaim D i j n, σ1) ∧ FX σ σ1 ∧ ((rClaim D i j n < 0 ∧ XC σ1 b D ∧ RO σ σ1) ∨ (rClaim D i j n = dc D ∧ ((1 ≤ n ∧ n ≤ 99999) ∧ lkD D i j = true ∧ dc D < 30 ∧ canE D i j n) ∧ XC σ1 b (addC D i j n) ∧ PshX σ σ1 0 1 0 0 0)) := by
  obtain ⟨σ1, e1, e2, e3, e4⟩ := k_enter hN V V Sm.rf X (Or.inl rfl) X.2.2.2.1 i j n
  have neg : ∀ r : Int, r < 0 → F_X11_enter N 29 i j n σ = some (r, σ1) → r = rClaim D i j n → ∃ σ1, F_X11_claim N i j n σ = some (rClaim D i j n, σ1) ∧ FX σ σ1 ∧ ((rClaim D i j n < 0 ∧ XC σ1 b D ∧ RO σ σ1) ∨ (rClaim D i j n = dc D ∧ ((1 ≤ n ∧ n ≤ 99999) ∧ lkD D i j = true ∧ dc D < 30 ∧ canE D i j n) ∧ XC σ1 b (addC D i j n) ∧ PshX σ σ1 0 1 0 0 0)) := fun r hr he hq => by
    refine ⟨σ1, ?_, FX.ro e2, Or.inl ⟨by omega, e1, e2⟩⟩
    unfold F_X11_claim
    rw [he, Option.bind_some]
    show (if r < 0 then _ else _) = _
    rw [if_pos hr, hq]
  rcases e4 with ⟨g1, g2⟩ | ⟨g1, g2, g3, g4⟩
  · refine neg (-1) (by omega) g2 ?_
    unfold rClaim
    rw [if_neg (fun z => by
      rcases g1 with g1 | g1
      · exact g1 z.1
      · rw [g1] at z; exact absurd z.2 (by decide))]
  · rcases g4 with ⟨g4, g5⟩ | ⟨g4, g5, g6⟩ | ⟨g4, g5, σ2, g6, g7, g8, g9⟩
    · refine neg (-2) (by omega) g5 ?_
      unfold rClaim
      rw [if_pos ⟨g1, g2⟩, if_pos g4]
    · refine neg (-3) (by omega) g6 ?_
      unfold rClaim
      rw [if_pos ⟨g1, g2⟩, if_neg (by omega), if_neg g5]
    · have er : rClaim D i j n = dc D := by
        unfold rClaim
        rw [if_pos ⟨g1, g2⟩, if_neg (by omega), if_pos g5]
      have h33' : σ2.1 33 1 = u := by rw [g8 _ _ (by omega), e2 _ _ (by omega)]; exact h33
      obtain ⟨σ3, p1, p2, p3, p4⟩ := k_push hN hu h33' 0 1 0 0 0
      have fr : ∀ a z, ¬ (29 ≤ a ∧ a ≤ 34) → ¬ (a = 0 ∧ z = 17) → (upI σ3 0 17 0).1 a z = σ1.1 a z := fun a z q1 q2 => by rw [upI_ne q2, p3 a z (by omega) (by omega), g8 a z (by omega)]
      refine ⟨upI σ3 0 17 0, ?_, fun a z q => ?_, Or.inr ⟨er, ⟨g1, g2, g4, g5⟩, ?_, ?_⟩⟩
      · unfold F_X11_claim
        rw [g6, Option.bind_some]
        show (if (dc D : Int) < 0 then _ else _) = _
        rw [if_neg (by omega), p1, Option.bind_some, er]
      · rw [fr a z (by omega) (by omega)]
        exact e2 a z (by omega)
      · refine e1.mut (addC_sm D i j n) ?_ (fun a z q => fr a z (by omega) (by omega)) (fun z => by show σ3.2 49 z = _; rw [p4, g9]) up_same
        exact g7.cg (fun a z q1 q2 => by rw [up_pl (by omega), p3 a z (by omega) (by omega)])
      · intro u' hu' h'
        have q := p2 u' hu' (by rw [g8 _ _ (by omega), e2 _ _ (by omega)]; exact h')
        have w34 : ∀ z, σ2.1 34 z = σ.1 34 z := fun z => by rw [g8 _ _ (by omega), e2 _ _ (by omega)]
        refine ⟨by rw [up_pl (by decide)]; exact q.1, ?_, fun i hi x x0 x1 => ?_⟩
        · show (upI σ3 0 17 0).1 34 _ = _ ∧ (upI σ3 0 17 0).1 34 _ = _ ∧ (upI σ3 0 17 0).1 34 _ = _ ∧ (upI σ3 0 17 0).1 34 _ = _ ∧ (upI σ3 0 17 0).1 34 _ = _
          rw [up_pl (by decide), up_pl (by decide), up_pl (by decide), up_pl (by decide), up_pl (by decide)]
          exact q.2.1
        · show (upI σ3 0 17 0).1 34 _ = σ.1 34 _
          rw [up_pl (by decide), ← w34]
          exact q.2.2 i hi x x0 x1
theorem m_claim (hN : BigN N) (V : Val D) (M : MK σ D) {u : Nat} (hu : u ≤ 20) (h25 : σ.1 94 25 = u) (i j n : Int) : ∃ σ1, F_X12_claim N i j n σ = some (rClaim D i j n, σ1) ∧ FM σ σ1 ∧ ((rClaim D i j n < 0 ∧ MK σ1 D ∧ MO σ σ1) ∨ (rClaim D i j n = dc D ∧ MK σ1 (addC D i j n) ∧ PshM σ σ1)) := by
  have vz := V.sz
  obtain ⟨M', m'⟩ := M.up2 V 0
  have e100 : (upI σ 94 2 0).1 100 0 = gD D := M'.1.1.1.2.2.1
  unfold F_X12_claim
  rw [m_isLink M'.1 V, Option.bind_some]
  by_cases lk : lkD D i j = true
  · have lk' : lnk D (D.2 0 3) (D.2 5) i j = true := lk
    rw [if_pos lk', if_neg (by decide), m_isIn, Option.bind_some]
    by_cases hn : 1 ≤ n ∧ n ≤ 99999
    · rw [if_pos hn, if_neg (by decide), m_of0 M'.1, Option.bind_some]
      by_cases h30 : dc D = 30
      · have er : rClaim D i j n = -2 := by unfold rClaim; rw [if_pos ⟨hn, lk⟩, if_pos h30]
        rw [if_pos (by omega), er]
        exact ⟨_, rfl, FM.mo m', Or.inl ⟨by decide, M', m'⟩⟩
      · obtain ⟨σ1, a1, a2, a3, a4⟩ := m_st hN V M' (gD D)
        rw [if_neg (by omega), inb_in (by omega), e100, a1, Option.bind_some, m_canClaim hN V a3.1 a2 lk, Option.bind_some]
        by_cases hc : canE D i j n
        · have er : rClaim D i j n = dc D := by unfold rClaim; rw [if_pos ⟨hn, lk⟩, if_neg h30, if_pos hc]
          have h25' : σ1.1 94 25 = u := by rw [a4.1 _ _ (by omega), up_ix (by decide)]; exact h25
          obtain ⟨σ2, b1, b2, b3, b4⟩ := m_canUndo hN hu h25'
          have g24 : σ2.1 94 24 = 0 := (b3 _ _ (by omega) (by omega)).trans a3.2.1
          obtain ⟨σ3, d1, d2, d3, d4⟩ := m_claims (N := N) (D := D) (σ := σ2) V (Or.inl rfl) g24 (a3.b0.cg (fun z _ _ => b3 _ _ (by omega) (by omega)) V) (by omega) i j n
          rw [if_pos hc, if_neg (by decide), b1, Option.bind_some, d1, Option.bind_some, er]
          have g24' : σ3.1 94 24 = 0 := (d3 _ _ (by omega)).trans g24
          have o0 : F_X12_of N 0 σ3 = some ((dc D + 1 : Nat) : Int) := by rw [m_ofr (Or.inl rfl) g24' (by omega) (by omega)]; have := d2.1.1; rw [Int.mul_zero] at this; rw [Int.mul_zero, Int.add_zero, this]; rfl
          have fr : ∀ a z, ¬ (a = 101 ∧ (z < 200 ∨ 600 ≤ z)) → ¬ (a = 94 ∧ z = 25) → σ3.1 a z = σ1.1 a z := fun a z q1 q2 => by
            by_cases q3 : a = 101 ∧ z < 0
            · rw [d3 a z (by omega), b3 a z (by omega) q2]
            · rw [d3 a z (by omega), b3 a z (by omega) q2]
          have ft : FM σ σ3 := (FM.mo (m'.tr a4)).tr ⟨fun a z q => fr a z (by omega) (by omega), fun z => by rw [d4, b4]⟩
          refine ⟨σ3, ?_, ft, Or.inr ⟨rfl, ?_, ?_⟩⟩
          · rw [o0, Option.bind_some, js_eq ⟨by omega, by omega⟩, show ((dc D + 1 : Nat) : Int) - 1 = (dc D : Int) by omega]
          · exact a3.mut (addC_sm D i j n).txm (by rw [addC_row (by decide)]) d2 (fun a z q => fr a z (by omega) (by omega))
          · intro u' hu' h'
            have q := b2 u' hu' (by rw [a4.1 _ _ (by omega), up_ix (by decide)]; exact h')
            have w : ∀ z, ¬ (200 ≤ z ∧ z < 400) → σ1.1 101 z = σ.1 101 z := fun z hz => by rw [a4.1 _ _ (by omega), up_pl (by decide)]
            have kk : kpt u' ≤ 19 := by unfold kpt; split <;> omega
            have ss : ∀ i, i < kpt u' → sft u' i ≤ 19 := fun i hi => by unfold kpt at hi; unfold sft; split <;> split at hi <;> omega
            refine ⟨by rw [d3 _ _ (by omega)]; exact q.1, fun x x0 x1 => ?_, fun i hi x x0 x1 => ?_⟩
            · rw [d3 _ _ (by omega), q.2.1 x x0 x1]; exact w _ (by omega)
            · rw [d3 _ _ (by omega), q.2.2 i hi x x0 x1]; exact w _ (by omega)
        · have er : rClaim D i j n = -3 := by unfold rClaim; rw [if_pos ⟨hn, lk⟩, if_neg h30, if_neg hc]
          rw [if_neg hc, if_pos rfl, er]
          exact ⟨σ1, rfl, FM.mo (m'.tr a4), Or.inl ⟨by decide, a3, m'.tr a4⟩⟩
    · have er : rClaim D i j n = -1 := by unfold rClaim; rw [if_neg (fun z => hn z.1)]
      rw [if_neg hn, if_pos rfl, er]
      exact ⟨_, rfl, FM.mo m', Or.inl ⟨by decide, M', m'⟩⟩
  · have lk' : ¬ lnk D (D.2 0 3) (D.2 5) i j = true := lk
    have er : rClaim D i j n = -1 := by unfold rClaim; rw [if_neg (fun z => lk z.2)]
    rw [if_neg lk', if_pos rfl, er]
    exact ⟨_, rfl, FM.mo m', Or.inl ⟨by decide, M', m'⟩⟩
/-- a claim can be taken back -/
theorem inv_add (D : Dk) (i j n : Int) : InvR 0 1 0 0 0 (addC D i j n) D := Or.inl ⟨rfl, ⟨by show (dc D : Int) = ((dc D + 1 : Nat) : Int) - 1; omega, by show dc D ≤ dc D + 1; omega, fun x x0 x1 => ⟨(addC_old (by omega)).symm, (addC_old (by omega)).symm, (addC_old (by omega)).symm⟩⟩, ⟨rfl, fun x _ _ => by rw [addC_row (by decide), addC_row (by decide), addC_row (by decide), addC_row (by decide)]; exact ⟨rfl, rfl, rfl, rfl⟩⟩, fun p _ _ => by rw [addC_row (by decide)]⟩
end MUT
