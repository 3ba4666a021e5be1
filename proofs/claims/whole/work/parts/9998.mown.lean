/-! OWN: the reference -/
section MOWN
variable {N : Nat} {σ : Sto} {D : Dk} {a b p d : Int}
theorem m_owned (V : Val D) {k0 : Int} (hb : k0 = 0 ∨ k0 = 1) (h24 : σ.1 94 24 = k0) (B : BkM σ k0 D) (hc : dn D < 24) (a b p d : Int) : ∃ σ', F_X12_owned N a b p d σ = some σ' ∧ BkM σ' k0 (addO D a b p d) ∧ (∀ y z, ¬ (y = 101 ∧ 200 * k0 ≤ z ∧ z < 200 * k0 + 200) → σ'.1 y z = σ.1 y z) ∧ σ'.2 = σ.2 := by
  have vz := V.sz
  obtain ⟨⟨h1, h2⟩, h3, h4, h5⟩ := B
  have o0 : F_X12_of N 103 σ = some (dn D : Int) := by rw [m_ofr hb h24 (by omega) (by omega), h2]
  have ix : ja 104 (jm 4 (dn D : Int)) = 104 + 4 * dn D := i4 (by omega) (by omega)
  have x1 : ja (104 + 4 * (dn D : Int)) 1 = 104 + 4 * dn D + 1 := ja_eq ⟨by omega, by omega⟩
  have x2 : ja (104 + 4 * (dn D : Int)) 2 = 104 + 4 * dn D + 2 := ja_eq ⟨by omega, by omega⟩
  have x3 : ja (104 + 4 * (dn D : Int)) 3 = 104 + 4 * dn D + 3 := ja_eq ⟨by omega, by omega⟩
  let s1 : Sto := upI σ 101 (200 * k0 + (104 + 4 * dn D)) a
  let s2 : Sto := upI s1 101 (200 * k0 + (104 + 4 * dn D + 1)) b
  let s3 : Sto := upI s2 101 (200 * k0 + (104 + 4 * dn D + 2)) p
  let s4 : Sto := upI s3 101 (200 * k0 + (104 + 4 * dn D + 3)) d
  have f1 : s1.1 94 24 = k0 := (up_pl (by decide)).trans h24
  have f2 : s2.1 94 24 = k0 := (up_pl (by decide)).trans f1
  have f3 : s3.1 94 24 = k0 := (up_pl (by decide)).trans f2
  have f4 : s4.1 94 24 = k0 := (up_pl (by decide)).trans f3
  have old : ∀ z : Int, ¬ (200 * k0 + (104 + 4 * dn D) ≤ z ∧ z ≤ 200 * k0 + (104 + 4 * dn D + 3)) → s4.1 101 z = σ.1 101 z := fun z hz => by
    show (upI (upI (upI (upI σ 101 _ a) 101 _ b) 101 _ p) 101 _ d).1 101 z = _
    rw [up_ix (by omega), up_ix (by omega), up_ix (by omega), up_ix (by omega)]
  have e103 : F_X12_of N 103 s4 = some (dn D : Int) := by rw [m_ofr hb f4 (by omega) (by omega), old _ (by omega), h2]
  have n1 : s4.1 101 (200 * k0 + (104 + 4 * dn D)) = a := by
    show (upI (upI (upI (upI σ 101 _ a) 101 _ b) 101 _ p) 101 _ d).1 101 _ = _
    rw [up_ix (by omega), up_ix (by omega), up_ix (by omega), up_same]
  have n2 : s4.1 101 (200 * k0 + (104 + 4 * dn D + 1)) = b := by
    show (upI (upI (upI (upI σ 101 _ a) 101 _ b) 101 _ p) 101 _ d).1 101 _ = _
    rw [up_ix (by omega), up_ix (by omega), up_same]
  have n3 : s4.1 101 (200 * k0 + (104 + 4 * dn D + 2)) = p := by
    show (upI (upI (upI (upI σ 101 _ a) 101 _ b) 101 _ p) 101 _ d).1 101 _ = _
    rw [up_ix (by omega), up_same]
  have n4 : s4.1 101 (200 * k0 + (104 + 4 * dn D + 3)) = d := up_same
  have run : F_X12_owned N a b p d σ = some (upI s4 101 (200 * k0 + 103) ((dn D : Int) + 1)) := by
    unfold F_X12_owned
    rw [o0, Option.bind_some, ix, m_lay hb h24 (by omega) (by omega), Option.bind_some, x1, x2, x3]
    show (F_X12_lay N (104 + 4 * (dn D : Int) + 1) b s1).bind _ = _
    rw [m_lay hb f1 (by omega) (by omega), Option.bind_some]
    show (F_X12_lay N (104 + 4 * (dn D : Int) + 2) p s2).bind _ = _
    rw [m_lay hb f2 (by omega) (by omega), Option.bind_some]
    show (F_X12_lay N (104 + 4 * (dn D : Int) + 3) d s3).bind _ = _
    rw [m_lay hb f3 (by omega) (by omega), Option.bind_some]
    show (F_X12_of N 103 s4).bind _ = _
    rw [e103, Option.bind_some, ja_1 (by omega) (by omega)]
    show (F_X12_lay N 103 _ s4).bind _ = _
    rw [m_lay hb f4 (by omega) (by omega), Option.bind_some]
  have old' : ∀ z : Int, z ≠ 200 * k0 + 103 → (upI s4 101 (200 * k0 + 103) ((dn D : Int) + 1)).1 101 z = s4.1 101 z := fun z hz => up_ix hz
  refine ⟨_, run, ⟨⟨?_, ?_⟩, fun k k0' k1 => ?_, fun q q0 q1 => ?_, fun k k0' k1 => ?_⟩, fun y z q => ?_, rfl⟩
  · rw [old' _ (by omega), old _ (by omega)]; exact h1
  · rw [up_same]; show (dn D : Int) + 1 = ((dn D + 1 : Nat) : Int); omega
  · have k1 : k < (dc D : Int) := k1
    rw [addO_row (r := 12) (by omega), addO_row (r := 13) (by omega), addO_row (r := 14) (by omega), old' _ (by omega), old' _ (by omega), old' _ (by omega), old _ (by omega), old _ (by omega), old _ (by omega)]
    exact h3 k k0' k1
  · have q1 : q < (dp D : Int) := q1
    rw [addO_row (r := 7) (by omega), old' _ (by omega), old _ (by omega)]; exact h4 q q0 q1
  · have k1 : k < ((dn D + 1 : Nat) : Int) := k1
    rw [old' _ (by omega), old' _ (by omega), old' _ (by omega), old' _ (by omega)]
    by_cases e : k = dn D
    · subst e
      rw [addO_new.1, addO_new.2.1, addO_new.2.2.1, addO_new.2.2.2]
      exact ⟨n1, n2, n3, n4⟩
    · rw [addO_old e, addO_old e, addO_old e, addO_old e, old _ (by omega), old _ (by omega), old _ (by omega), old _ (by omega)]
      exact h5 k k0' (by omega)
  · rw [upI_ne (by omega)]
    show (upI (upI (upI (upI σ 101 _ a) 101 _ b) 101 _ p) 101 _ d).1 y z = _
    rw [upI_ne (by omega), upI_ne (by omega), upI_ne (by omega), upI_ne (by omega)]
theorem addO_txm (T : TxM σ D) : TxM σ (addO D a b p d) := by
  unfold TxM
  rw [addO_row (r := 0) (by omega), addO_row (r := 1) (by omega), addO_row (r := 2) (by omega), addO_row (r := 3) (by omega), addO_row (r := 4) (by omega), addO_row (r := 5) (by omega), addO_row (r := 6) (by omega)]
  exact T
theorem m_own (hN : BigN N) (V : Val D) (K : GdD D) (M : MK σ D) {u : Nat} (hu : u ≤ 20) (h25 : σ.1 94 25 = u) (a b p d : Int) : ∃ σ1, F_X12_own N a b p d σ = some (rOwn D a b p d, σ1) ∧ FM σ σ1 ∧ ((¬ (okO D a b p d ∧ dn D < 24 ∧ excB (addO D a b p d) = false) ∧ MK σ1 D ∧ MO σ σ1) ∨ ((okO D a b p d ∧ dn D < 24 ∧ excB (addO D a b p d) = false) ∧ MK σ1 (addO D a b p d) ∧ PshM σ σ1)) := by
  have vz := V.sz
  obtain ⟨M', m'⟩ := M.up2 V 0
  have e100 : (upI σ 94 2 0).1 100 0 = gD D := M'.1.1.1.2.2.1
  have same : ∀ r, r = rOwn D a b p d → ¬ (okO D a b p d ∧ dn D < 24 ∧ excB (addO D a b p d) = false) → ∃ σ1, some (r, upI σ 94 2 0) = some (rOwn D a b p d, σ1) ∧ FM σ σ1 ∧ ((¬ (okO D a b p d ∧ dn D < 24 ∧ excB (addO D a b p d) = false) ∧ MK σ1 D ∧ MO σ σ1) ∨ ((okO D a b p d ∧ dn D < 24 ∧ excB (addO D a b p d) = false) ∧ MK σ1 (addO D a b p d) ∧ PshM σ σ1)) := fun r hr h => ⟨_, by rw [hr], FM.mo m', Or.inl ⟨h, M', m'⟩⟩
  have bad : ¬ okO D a b p d → ∃ σ1, some ((-1 : Int), upI σ 94 2 0) = some (rOwn D a b p d, σ1) ∧ FM σ σ1 ∧ ((¬ (okO D a b p d ∧ dn D < 24 ∧ excB (addO D a b p d) = false) ∧ MK σ1 D ∧ MO σ σ1) ∨ ((okO D a b p d ∧ dn D < 24 ∧ excB (addO D a b p d) = false) ∧ MK σ1 (addO D a b p d) ∧ PshM σ σ1)) := fun h => same (-1) (by unfold rOwn; rw [if_neg h]) (fun z => h z.1)
  unfold F_X12_own
  rw [m_isMember M'.1, Option.bind_some]
  by_cases h1 : isM D a
  · rw [if_pos h1, if_neg (by decide), m_isMember M'.1, Option.bind_some]
    by_cases h2 : isM D b
    · rw [if_pos h2, if_neg (by decide)]
      by_cases h3 : b ≤ a
      · rw [if_pos h3]; exact bad (fun z => by have := z.1.2.2; omega)
      rw [if_neg h3, m_isIn, Option.bind_some]
      by_cases h4 : 0 ≤ p ∧ p ≤ 100
      · rw [if_pos h4, if_neg (by decide), m_isDay, Option.bind_some]
        by_cases h5 : isD d
        · have ok : okO D a b p d := ⟨⟨h1, h2, by omega⟩, h4, h5⟩
          rw [if_pos h5, if_neg (by decide), m_of103 M'.1, Option.bind_some]
          by_cases h6 : dn D = 24
          · rw [if_pos (by omega)]
            exact same (-2) (by unfold rOwn; rw [if_pos ok, if_pos h6]) (fun z => by omega)
          · have hn : dn D < 24 := by omega
            have V' := addO_val V hn ok
            obtain ⟨g1, g2, g3⟩ := addO_g (D := D) (a := a) (b := b) (p := p) (d := d)
            obtain ⟨σ1, c1, c2, c3, c4⟩ := m_copyBank (N := N) (σ := upI σ 94 2 0) hN (f := 0) (t := 1) (by decide) (by decide) (by decide)
            have c1 : F_X12_copyBank N 0 1 (upI σ 94 2 0) = some σ1 := c1
            have c3 : ∀ a z, ¬ (a = 101 ∧ 200 ≤ z ∧ z < 400) → σ1.1 a z = (upI σ 94 2 0).1 a z := fun a z q => c3 a z (by omega)
            have B1 : BkM (upI σ1 94 24 1) 1 D := (BkM.cp (σ' := σ1) (f := 0) (t := 1) V M'.b0 (fun k k0 k1 => c2 k k0 k1)).cg (fun j _ _ => up_pl (by decide)) V
            obtain ⟨σ2, d1, d2, d3, d4⟩ := m_owned (N := N) (σ := upI σ1 94 24 1) V (Or.inr rfl) up_same B1 hn a b p d
            have f2 : ∀ y z, ¬ (y = 101 ∧ 200 ≤ z ∧ z < 400) → ¬ (y = 94 ∧ z = 24) → σ2.1 y z = (upI σ 94 2 0).1 y z := fun y z q1 q2 => by rw [d3 y z (by omega), upI_ne q2, c3 y z q1]
            have t24 : σ2.1 94 24 = 1 := (d3 _ _ (by omega)).trans up_same
            have Mr : ModR σ2 (addO D a b p d) := ⟨addO_txm (M'.1.1.cg (fun j q => f2 _ _ (by omega) (by omega)) (fun j => f2 _ _ (by omega) (by omega)) (fun j => f2 _ _ (by omega) (by omega)) (fun j _ => f2 _ _ (by omega) (by omega))), 1, Or.inr rfl, t24, d2⟩
            obtain ⟨σ3, s1, s2⟩ := m_stretches hN Mr V' (gD (addO D a b p d))
            have fs := fr_X12_laysStretches s1
            have f3 : ∀ y z, ¬ (102 ≤ y ∧ y ≤ 104) → ¬ (y = 94 ∧ z = 30) → σ3.1 y z = σ2.1 y z := fun y z p q => fs.1 y z (fun w => by unfold Wr_X12_laysStretches at w; omega)
            have f3b : ∀ j, σ3.2 49 j = σ2.2 49 j := fun j => fs.2 49 j (fun w => by unfold Wr_X12_laysStretches at w; omega)
            have M3 : ModR σ3 (addO D a b p d) := Mr.fr V' (fun y j h => f3 y j (by omega) (by omega))
            have r100 : σ2.1 100 0 = gD (addO D a b p d) := by rw [f2 _ _ (by omega) (by omega), g1]; exact e100
            rw [if_neg (by omega), c1, Option.bind_some, d1, Option.bind_some, inb_in (by omega), r100, s1, Option.bind_some]
            have vz' := V'.sz
            have lp : loopK (fun q nx96 => F_X12_own_B96 N nx96 a b p d q.1 q.2 σ3) N (1, 0) = F_X12_own_J169 N a b p d (if excB (addO D a b p d) = true then 0 else 1) σ3 := by
              have st : ∀ k : Nat, k ≤ dc D → True := fun _ _ => trivial
              refine loopK_for (b := fun q nx96 => F_X12_own_B96 N nx96 a b p d q.1 q.2 σ3) (s := fun k => ((if anyB (fun k => decide (bnd (addO D a b p d) (gD (addO D a b p d)) ((addO D a b p d).2 5) ((addO D a b p d).2 12 k) ((addO D a b p d).2 13 k) < takOn (addO D a b p d) ((addO D a b p d).2 12 k) ((addO D a b p d).2 13 k))) k = true then (0 : Int) else 1), (k : Int))) (dc (addO D a b p d)) (bigN hN) (fun k hk nx => ?_) (fun nx => ?_)
              · show F_X12_own_B96 N nx a b p d (if anyB _ k = true then (0 : Int) else 1) k σ3 = nx ((if (anyB _ k || decide _) = true then (0 : Int) else 1), ((k + 1 : Nat) : Int))
                have o := m_ofc (N := N) M3 V' (k := (k : Int)) (by omega) (by omega)
                have v := V'.clm (k := k) (by omega) (by omega)
                have lk : lkD (addO D a b p d) ((addO D a b p d).2 12 k) ((addO D a b p d).2 13 k) = true := by
                  show lnk _ _ _ _ _ = true
                  rw [addO_row (r := 12) (by omega), addO_row (r := 13) (by omega), addO_lnk, g2, g3]
                  exact K.1 k hk
                have lq := (lk_bd V' lk).1
                unfold F_X12_own_B96 F_X12_own_J160 F_X12_own_J161
                rw [m_of0 M3, Option.bind_some, if_neg (by omega), o.1, Option.bind_some, o.2.1, Option.bind_some, ja_1 (by omega) (by omega), m_claimedBy hN M3 V', Option.bind_some, m_boundOf hN V' M3 s2 (by omega) (by omega) (by omega) (by omega) (by omega) (by omega), Option.bind_some]
                by_cases q : anyB (fun k => decide (bnd (addO D a b p d) (gD (addO D a b p d)) ((addO D a b p d).2 5) ((addO D a b p d).2 12 k) ((addO D a b p d).2 13 k) < takOn (addO D a b p d) ((addO D a b p d).2 12 k) ((addO D a b p d).2 13 k))) k = true
                · rw [if_pos q, if_pos rfl, q, Bool.true_or, if_pos rfl]; rfl
                · rw [if_neg q, if_neg (by decide), b_ne q, Bool.false_or]
                  by_cases w : bnd (addO D a b p d) (gD (addO D a b p d)) ((addO D a b p d).2 5) ((addO D a b p d).2 12 k) ((addO D a b p d).2 13 k) < takOn (addO D a b p d) ((addO D a b p d).2 12 k) ((addO D a b p d).2 13 k)
                  · rw [if_pos w, if_pos (decide_eq_true w)]; rfl
                  · rw [if_neg w, if_neg (fun z => w (of_decide_eq_true z))]; rfl
              · show F_X12_own_B96 N nx a b p d (if excB (addO D a b p d) = true then (0 : Int) else 1) (dc (addO D a b p d) : Int) σ3 = _
                unfold F_X12_own_B96
                rw [m_of0 M3, Option.bind_some, if_pos (Int.le_refl _)]
            rw [lp]
            have back : ∀ y z, (upI σ3 94 24 0).1 y z = σ.1 y z ∨ (y = 101 ∧ 200 ≤ z ∧ z < 400) ∨ (102 ≤ y ∧ y ≤ 104) ∨ (y = 94 ∧ (z = 30 ∨ z = 2)) := fun y z => by
              by_cases q0 : y = 94 ∧ z = 24
              · obtain ⟨rfl, rfl⟩ := q0
                exact Or.inl (by rw [up_same]; exact M.2.1.symm)
              · by_cases q1 : (y = 101 ∧ 200 ≤ z ∧ z < 400) ∨ (102 ≤ y ∧ y ≤ 104) ∨ (y = 94 ∧ (z = 30 ∨ z = 2))
                · exact Or.inr q1
                · exact Or.inl (by rw [upI_ne q0, f3 y z (by omega) (by omega), f2 y z (by omega) q0, upI_ne (by omega)])
            have b49 : ∀ j, (upI σ3 94 24 0).2 49 j = σ.2 49 j := fun j => by
              show σ3.2 49 j = _
              rw [f3b, d4]
              show σ1.2 49 j = _
              rw [c4]; rfl
            have mo : MO σ (upI σ3 94 24 0) := ⟨fun y z q => (back y z).resolve_right (by omega), b49⟩
            have Mb : MK (upI σ3 94 24 0) D := M.cg V mo
            unfold F_X12_own_J169
            by_cases h7 : excB (addO D a b p d) = true
            · have er : rOwn D a b p d = -3 := by unfold rOwn; rw [if_pos ok, if_neg h6, if_pos h7]
              rw [if_pos h7, if_pos rfl, er]
              exact ⟨_, rfl, FM.mo mo, Or.inl ⟨fun z => by rw [h7] at z; exact absurd z.2.2 (by decide), Mb, mo⟩⟩
            · have er : rOwn D a b p d = (dn D : Int) + 1 := by unfold rOwn; rw [if_pos ok, if_neg h6, if_neg h7]
              obtain ⟨σ4, u1, u2, u3, u4⟩ := m_canUndo (N := N) (σ := upI σ3 94 24 0) hN hu ((mo.1 _ _ (by omega)).trans h25)
              have g24 : σ4.1 94 24 = 0 := (u3 _ _ (by omega) (by omega)).trans up_same
              obtain ⟨σ5, v1, v2, v3, v4⟩ := m_owned (N := N) (σ := σ4) V (Or.inl rfl) g24 (Mb.b0.cg (fun z _ _ => u3 _ _ (by omega) (by omega)) V) hn a b p d
              have g24' : σ5.1 94 24 = 0 := (v3 _ _ (by omega)).trans g24
              have o3 : F_X12_of N 103 σ5 = some ((dn D : Int) + 1) := by
                rw [m_ofr (Or.inl rfl) g24' (by omega) (by omega), v2.1.2]
                show some ((dn D + 1 : Nat) : Int) = _
                congr 1
              have fr : ∀ y z, ¬ (y = 101 ∧ (z < 200 ∨ 600 ≤ z)) → ¬ (y = 94 ∧ z = 25) → σ5.1 y z = (upI σ3 94 24 0).1 y z := fun y z q1 q2 => by rw [v3 y z (by omega), u3 y z (by omega) q2]
              rw [if_neg h7, if_neg (by decide), u1, Option.bind_some, v1, Option.bind_some, o3, Option.bind_some, er]
              refine ⟨σ5, rfl, (FM.mo mo).tr ⟨fun y z q => fr y z (by omega) (by omega), fun z => by rw [v4, u4]⟩, Or.inr ⟨⟨ok, hn, b_ne h7⟩, ?_, ?_⟩⟩
              · exact Mb.mut addO_txm (by rw [addO_row (r := 0) (by omega)]) v2 (fun y z q => fr y z (by omega) (by omega))
              · exact u2.cg (mo.1 _ _ (by omega)) (fun z hz => mo.1 _ _ (by omega)) (v3 _ _ (by omega)) (fun z hz => v3 _ _ (by omega))
        · rw [if_neg h5, if_pos rfl]; exact bad (fun z => h5 z.2.2)
      · rw [if_neg h4, if_pos rfl]; exact bad (fun z => h4 z.2.1)
    · rw [if_neg h2, if_pos rfl]; exact bad (fun z => h2 z.1.2.1)
  · rw [if_neg h1, if_pos rfl]; exact bad (fun z => h1 z.1.1)
end MOWN
