/-! THE REFERENCE lays all; desks that are alike but for claims, carry, first days -/
abbrev G0 : Int → Bool := fun _ => false
/-- D' is D but for row 5, the carry, the claims -/
def Sim (D D' : Dk) : Prop := (dm D' = dm D ∧ dp D' = dp D ∧ dn D' = dn D) ∧ (∀ r, r ≠ 0 → r ≠ 5 → r < 12 → D'.2 r = D.2 r) ∧ D'.2 0 0 = D.2 0 0 ∧ D'.2 0 1 = D.2 0 1 ∧ D'.2 0 2 = D.2 0 2
section SIM
variable {D D' : Dk}
theorem Sim.pctKe (h : Sim D D') (a b day : Int) : ∀ k, pctK D' a b day k = pctK D a b day k := by
  intro k
  induction k with
  | zero => rfl
  | succ k ih =>
    show (if D'.2 8 k = a ∧ D'.2 9 k = b ∧ D'.2 11 k ≤ day ∧ (pctK D' a b day k).1 ≤ D'.2 11 k then (D'.2 11 k, D'.2 10 k) else pctK D' a b day k) = (if D.2 8 k = a ∧ D.2 9 k = b ∧ D.2 11 k ≤ day ∧ (pctK D a b day k).1 ≤ D.2 11 k then (D.2 11 k, D.2 10 k) else pctK D a b day k)
    rw [ih, h.2.1 8 (by decide) (by decide) (by decide), h.2.1 9 (by decide) (by decide) (by decide), h.2.1 10 (by decide) (by decide) (by decide), h.2.1 11 (by decide) (by decide) (by decide)]
theorem Sim.pct' (h : Sim D D') (day : Int) : pct D' day = pct D day := by
  funext a b
  unfold pct
  rw [h.pctKe, h.1.2.2]
theorem Sim.nxtK' (h : Sim D D') (d : Int) : ∀ k, nxtK D' d k = nxtK D d k := by
  intro k
  induction k with
  | zero => rfl
  | succ k ih =>
    show (if d < D'.2 11 k ∧ D'.2 11 k < nxtK D' d k then D'.2 11 k else nxtK D' d k) = (if d < D.2 11 k ∧ D.2 11 k < nxtK D d k then D.2 11 k else nxtK D d k)
    rw [ih, h.2.1 11 (by decide) (by decide) (by decide)]
theorem Sim.nxt' (h : Sim D D') (d : Int) : nxt D' d = nxt D d := by
  unfold nxt; rw [h.nxtK', h.1.2.2]
theorem Sim.stD' (h : Sim D D') : ∀ i, stD D' i = stD D i := by
  intro i
  induction i with
  | zero => rfl
  | succ i ih => show nxt D' (stD D' i) = nxt D (stD D i); rw [ih, h.nxt']
theorem Sim.nsD' (h : Sim D D') : nsD D' = nsD D := by
  have key : ∀ f i, nsF D' f i = nsF D f i := by
    intro f
    induction f with
    | zero => intro i; rfl
    | succ f ih =>
      intro i
      unfold nsF
      rw [h.stD', ih]
  exact key 25 0
theorem Sim.dys' (h : Sim D D') (g a b fr to : Int) : dys D' g a b fr to = dys D g a b fr to := by
  have e : dysF D' g a b fr to = dysF D g a b fr to := by
    funext i
    unfold dysF
    rw [h.stD', h.stD', h.pct', h.1.1]
  unfold dys
  rw [e, h.nsD']
theorem Sim.bnd' (h : Sim D D') (g : Int) (F : Int → Int) : bnd D' g F = bnd D g F := by
  funext i j
  unfold bnd shd
  rw [h.dys', h.2.1 4 (by decide) (by decide) (by decide), h.2.1 6 (by decide) (by decide) (by decide), h.2.1 7 (by decide) (by decide) (by decide)]
theorem Sim.lnk' (h : Sim D D') (c : Int) (F : Int → Int) : lnk D' c F = lnk D c F := by
  funext i j
  unfold lnk
  rw [h.2.1 4 (by decide) (by decide) (by decide), h.2.1 6 (by decide) (by decide) (by decide), h.2.1 7 (by decide) (by decide) (by decide), h.1.2.1]
theorem Sim.prc' (h : Sim D D') : prc D' = prc D := by
  funext i j
  unfold prc
  rw [h.2.1 4 (by decide) (by decide) (by decide), h.2.1 2 (by decide) (by decide) (by decide), h.2.1 3 (by decide) (by decide) (by decide), h.2.2.2.1]
theorem Sim.pS' (h : Sim D D') (G : Int → Bool) : pS D' G = pS D G := by
  funext u
  unfold pS
  rw [h.2.1 7 (by decide) (by decide) (by decide)]
theorem Sim.pP' (h : Sim D D') (c : Int) (F : Int → Int) : pP D' c F = pP D c F := by
  funext i j
  unfold pP
  rw [h.lnk', h.prc']
end SIM
/-- no CLAIMS -/
def dk0 (D : Dk) : Dk := ((dm D, dp D, dn D, 0), D.2)
theorem dk0_sim (D : Dk) : Sim D (dk0 D) := ⟨⟨rfl, rfl, rfl⟩, fun _ _ _ _ => rfl, rfl, rfl, rfl⟩
theorem dk0_val {D : Dk} (V : Val D) : Val (dk0 D) := by
  obtain ⟨⟨a1, a2, a3, a4⟩, b, d, e, f, h⟩ := V
  exact ⟨⟨a1, a2, a3, Nat.zero_le _⟩, b, d, e, f, fun k h0 h1 => by have h1 : k < ((0 : Nat) : Int) := h1; omega⟩
theorem dk0_gd {D : Dk} (V : Val D) {g c : Int} {F : Int → Int} (hF : FOk D F) : Gd (dk0 D) g c F := by
  refine ⟨fun k hk => absurd hk (Nat.not_lt_zero _), fun i j h => ?_, fun p h0 h1 => ?_⟩
  · show (0 : Int) ≤ bnd (dk0 D) g F i j
    have q := lnk_iff.mp h
    exact (bnd_bd (D := dk0 D) (g := g) (dk0_val V) (i := i) (j := j) hF (by omega) (by omega) (by omega) (by omega) (by omega) (by omega)).1
  · have := rabs_bd (dk0_val V) h0 h1
    show 0 ≤ rabs (D.2 7 p) - 0
    have e : rabs ((dk0 D).2 7 p) = rabs (D.2 7 p) := rfl
    omega
section LAYS
variable {N : Nat} {σ : Sto} {D : Dk} {G : Int → Bool}
theorem m_laysAll (hN : BigN N) (V : Val D) (M : ModR σ D) (g : Int) {cl : Int} (hG : ∀ p : Nat, p < dp D → G p = decide (D.2 4 p = σ.1 94 38)) {D' : Dk} (hcl : (cl = 1 ∧ D' = D ∧ ∀ k : Nat, k < dc D → G (D.2 12 k) = false ∧ G (D.2 13 k) = false) ∨ (cl = 0 ∧ D' = dk0 D)) : ∃ σ', F_X12_laysAll N g cl σ = some σ' ∧ (∀ i : Nat, i < dp D → σ'.1 105 i = pL D' G i) ∧ ∀ i j : Nat, i < dp D → j < dp D → σ'.1 106 (12 * i + j) = pC D' g (D.2 0 3) (D.2 5) G i j := by
  have vz := V.sz
  obtain ⟨σ1, s1, s2⟩ := m_stretches hN M V g
  have f1 := fr_X12_laysStretches s1
  have f1 : ∀ a z, ¬ ((a = 94 ∧ z = 30) ∨ (102 ≤ a ∧ a ≤ 104)) → σ1.1 a z = σ.1 a z := fun a z h => f1.1 a z h
  have lk : lnk D' (D.2 0 3) (D.2 5) = lnk D (D.2 0 3) (D.2 5) := by
    rcases hcl with ⟨-, e, -⟩ | ⟨-, e⟩
    · rw [e]
    · rw [e]; exact (dk0_sim D).lnk' _ _
  have bd : bnd D' g (D.2 5) = bnd D g (D.2 5) := by
    rcases hcl with ⟨-, e, -⟩ | ⟨-, e⟩
    · rw [e]
    · rw [e]; exact (dk0_sim D).bnd' _ _
  have d7 : D'.2 7 = D.2 7 := by
    rcases hcl with ⟨-, e, -⟩ | ⟨-, e⟩ <;> rw [e] <;> rfl
  unfold F_X12_laysAll
  rw [s1, Option.bind_some]
  refine Exists.elim (loop_A (b := fun q nx => F_X12_laysAll_B7 N nx cl q.1 q.2) (fin := fun q => some q.2) (N := N) (s0 := ((0 : Int), σ1)) (fun k q => q.1 = k ∧ (∀ a z, a ≠ 105 → a ≠ 106 → q.2.1 a z = σ1.1 a z) ∧ (∀ i : Nat, i < k → q.2.1 105 i = pL D' G i) ∧ ∀ i j : Nat, i < k → j < dp D → q.2.1 106 (12 * i + j) = pC D' g (D.2 0 3) (D.2 5) G i j) (dp D) (bigN hN) ⟨rfl, fun _ _ _ _ => rfl, fun i h => by omega, fun i j h => by omega⟩ (fun k q hk hI => ?_) (fun q hI nx => ?_)) (fun q hq => ?_)
  rotate_right
  · obtain ⟨⟨j1, j2, j3, j4⟩, hx⟩ := hq
    exact ⟨q.2, hx, j3, j4⟩
  · obtain ⟨u, τ⟩ := q
    obtain ⟨rfl, i2, i3, i4⟩ := hI
    have Mm : ∀ τ' : Sto, (∀ a z, a ≠ 105 → a ≠ 106 → τ'.1 a z = σ1.1 a z) → ModR τ' D ∧ StrM τ' D g ∧ τ'.1 94 38 = σ.1 94 38 := fun τ' h => ⟨M.fr V (fun a z q => (h a z (by omega) (by omega)).trans (f1 a z (by omega))), s2.cg (h _ _ (by decide) (by decide)) (fun j => h _ _ (by decide) (by decide)) (fun j => h _ _ (by decide) (by decide)), (h _ _ (by decide) (by decide)).trans (f1 _ _ (by omega))⟩
    obtain ⟨Mτ, Sτ, sk⟩ := Mm τ i2
    have gk := hG k hk
    have row : ∃ τ2, (∀ x, F_X12_laysAll_J82 N x cl k (if G k = true then 0 else 1) k (pL D' G k) τ = x ((k : Int) + 1, τ2)) ∧ (∀ a z, a ≠ 105 → a ≠ 106 → τ2.1 a z = σ1.1 a z) ∧ τ2.1 105 k = pL D' G k ∧ (∀ z : Int, z ≠ k → τ2.1 105 z = τ.1 105 z) ∧ (∀ z, z < 12 * (k : Int) → τ2.1 106 z = τ.1 106 z) ∧ ∀ j : Nat, j < dp D → τ2.1 106 (12 * k + j) = pC D' g (D.2 0 3) (D.2 5) G k j := by
      refine Exists.elim (loop_X (b := fun x q nx => F_X12_laysAll_B86 N x nx cl k (if G k = true then 0 else 1) q.1 q.2) (fin := fun x q => x ((k : Int) + 1, q.2)) (N := N) (s0 := ((0 : Int), upI τ 105 k (pL D' G k))) (fun m q => q.1 = m ∧ (∀ a z, a ≠ 106 → q.2.1 a z = (upI τ 105 k (pL D' G k)).1 a z) ∧ (∀ z, z < 12 * (k : Int) → q.2.1 106 z = τ.1 106 z) ∧ ∀ j : Nat, j < m → q.2.1 106 (12 * k + j) = pC D' g (D.2 0 3) (D.2 5) G k j) (dp D) (bigN hN) ⟨rfl, fun _ _ _ => rfl, fun z _ => up_pl (by decide), fun j h => by omega⟩ (fun m q hm hI => ?_) (fun q hI x nx => ?_)) (fun q hq => ?_)
      rotate_right
      · obtain ⟨⟨l1, l2, l3, l4⟩, hx⟩ := hq
        refine ⟨q.2, fun x => ?_, fun a z h1 h2 => ?_, ?_, fun z h => ?_, l3, l4⟩
        · unfold F_X12_laysAll_J82
          rw [inb_in (by omega)]
          exact hx x
        · rw [l2 a z h2, up_pl h1]; exact i2 a z h1 h2
        · rw [l2 _ _ (by decide), up_same]
        · rw [l2 _ _ (by decide), up_ix h]
      · obtain ⟨u, τ'⟩ := q
        obtain ⟨rfl, l2, l3, l4⟩ := hI
        obtain ⟨M', S', sk'⟩ := Mm τ' (fun a z h1 h2 => (l2 a z h2).trans ((up_pl h1).trans (i2 a z h1 h2)))
        have ix : ja (jm 12 (k : Int)) (m : Int) = 12 * k + m := ix12' (by omega) (by omega) (by omega) (by omega)
        have gm := hG m hm
        have step : ∀ v, (∀ x nx, F_X12_laysAll_B86 N x nx cl k (if G k = true then 0 else 1) m τ' = F_X12_laysAll_J161 N x nx cl k (if G k = true then 0 else 1) m (12 * k + m) v τ') → v = pC D' g (D.2 0 3) (D.2 5) G k m → ∃ s', (s'.1 = ((m + 1 : Nat) : Int) ∧ (∀ a z, a ≠ 106 → s'.2.1 a z = (upI τ 105 k (pL D' G k)).1 a z) ∧ (∀ z, z < 12 * (k : Int) → s'.2.1 106 z = τ.1 106 z) ∧ ∀ j : Nat, j < m + 1 → s'.2.1 106 (12 * k + j) = pC D' g (D.2 0 3) (D.2 5) G k j) ∧ ∀ x nx, F_X12_laysAll_B86 N x nx cl k (if G k = true then 0 else 1) m τ' = nx s' := fun v hv ev => by
          refine ⟨((m : Int) + 1, upI τ' 106 (12 * k + m) v), ⟨by show (m : Int) + 1 = _; omega, fun a z h => ?_, fun z h => ?_, fun j hj => ?_⟩, fun x nx => ?_⟩
          · show (upI τ' _ _ _).1 a z = _
            rw [up_pl h]; exact l2 a z h
          · show (upI τ' _ _ _).1 _ z = _
            rw [up_ix (by omega)]; exact l3 z h
          · show (upI τ' _ _ _).1 _ _ = _
            by_cases e : j = m
            · subst e; rw [up_same]; exact ev
            · rw [up_ix (by omega)]; exact l4 j (by omega)
          · rw [hv x nx]
            unfold F_X12_laysAll_J161
            rw [inb_in (by omega), ja_1 (by omega) (by omega)]
        have pc0 : ¬ (lnk D (D.2 0 3) (D.2 5) k m = true ∧ G k = false ∧ G m = false) → (0 : Int) = pC D' g (D.2 0 3) (D.2 5) G k m := fun h => by
          unfold pC; rw [lk, if_neg h]
        by_cases q1 : G k = true
        · refine step 0 (fun x nx => ?_) (pc0 (fun z => by rw [q1] at z; cases z.2.1))
          unfold F_X12_laysAll_B86 F_X12_laysAll_J160
          rw [M'.1.1.2.1, if_neg (by omega), if_pos q1, if_pos rfl, ix]
        · have q1' : G k = false := by
            cases h : G k
            · rfl
            · exact absurd h q1
          by_cases q2 : G m = true
          · refine step 0 (fun x nx => ?_) (pc0 (fun z => by rw [q2] at z; cases z.2.2))
            rw [q2] at gm
            unfold F_X12_laysAll_B86 F_X12_laysAll_J160
            rw [M'.1.1.2.1, if_neg (by omega), if_neg q1, if_neg (by decide), ix, m_memberOf M' V (by omega) (by omega), Option.bind_some, if_pos (by rw [sk']; exact of_decide_eq_true gm.symm)]
          · have q2' : G m = false := by
              cases h : G m
              · rfl
              · exact absurd h q2
            rw [q2'] at gm
            have ne : ¬ D.2 4 m = τ'.1 94 38 := by rw [sk']; exact of_decide_eq_false gm.symm
            by_cases q3 : lnk D (D.2 0 3) (D.2 5) k m = true
            · have q4 := lnk_iff.mp q3
              have b := bnd_bd (g := g) V V.fok (i := k) (j := m) (by omega) (by omega) (by omega) (by omega) (by omega) (by omega)
              have t := takOn_bd V k m
              have v : pC D' g (D.2 0 3) (D.2 5) G k m = bnd D g (D.2 5) k m - takOn D' k m := by
                unfold pC; rw [lk, bd, if_pos ⟨q3, q1', q2'⟩]
              refine step (bnd D g (D.2 5) k m - takOn D' k m) (fun x nx => ?_) v.symm
              unfold F_X12_laysAll_B86 F_X12_laysAll_J156
              rw [M'.1.1.2.1, if_neg (by omega), if_neg q1, if_neg (by decide), ix, m_memberOf M' V (by omega) (by omega), Option.bind_some, if_neg ne, m_isLink M' V, Option.bind_some, if_pos q3, if_neg (by decide), m_boundOf hN V M' S' (by omega) (by omega) (by omega) (by omega) (by omega) (by omega), Option.bind_some, m_claimedBy hN M' V, Option.bind_some]
              rcases hcl with ⟨e, e2, -⟩ | ⟨e, e2⟩
              · rw [e, e2, if_neg (by decide), js_eq ⟨by omega, by omega⟩]
              · rw [e, e2, if_pos rfl, js_eq ⟨by omega, by omega⟩]
                rfl
            · refine step 0 (fun x nx => ?_) (pc0 (fun z => q3 z.1))
              unfold F_X12_laysAll_B86 F_X12_laysAll_J160
              rw [M'.1.1.2.1, if_neg (by omega), if_neg q1, if_neg (by decide), ix, m_memberOf M' V (by omega) (by omega), Option.bind_some, if_neg ne, m_isLink M' V, Option.bind_some, if_neg q3, if_pos rfl]
      · obtain ⟨u, τ'⟩ := q
        obtain ⟨rfl, l2, -⟩ := hI
        obtain ⟨M', -, -⟩ := Mm τ' (fun a z h1 h2 => (l2 a z h2).trans ((up_pl h1).trans (i2 a z h1 h2)))
        show F_X12_laysAll_B86 N x nx cl k _ (dp D : Int) τ' = _
        unfold F_X12_laysAll_B86 F_X12_laysAll_J168
        rw [M'.1.1.2.1, if_pos (Int.le_refl _), ja_1 (by omega) (by omega)]
    obtain ⟨τ2, w1, w2, w3, w4, w5, w6⟩ := row
    refine ⟨((k : Int) + 1, τ2), ⟨by show (k : Int) + 1 = _; omega, w2, fun v hv => ?_, fun i j hi hj => ?_⟩, fun nx => ?_⟩
    · by_cases e : v = k
      · subst e; exact w3
      · exact (w4 _ (by omega)).trans (i3 v (by omega))
    · by_cases e : i = k
      · subst e; exact w6 j hj
      · exact (w5 _ (by omega)).trans (i4 i j (by omega) hj)
    · show F_X12_laysAll_B7 N nx cl (k : Int) τ = _
      have r := (V.per (p := k) (by omega) (by omega)).2.2
      unfold F_X12_laysAll_B7
      rw [Mτ.1.1.2.1, if_neg (by omega), m_memberOf Mτ V (by omega) (by omega), Option.bind_some, sk, ← w1 nx]
      by_cases q1 : G k = true
      · rw [q1] at gk
        rw [if_pos (of_decide_eq_true gk.symm)]
        unfold F_X12_laysAll_J32 pL
        rw [if_pos rfl, if_pos q1, if_pos q1]
      · have q1' : G k = false := by
          cases h : G k
          · rfl
          · exact absurd h q1
        rw [q1'] at gk
        rw [if_neg (of_decide_eq_false gk.symm), if_neg q1]
        unfold F_X12_laysAll_J32
        rw [if_neg (by decide)]
        rcases hcl with ⟨e, e2, e3⟩ | ⟨e, e2⟩
        · have v : pL D' G k = opn D k := by
            unfold pL opn
            rw [if_neg q1, e2]
            have : tkG D G k = takOf D k := sumTo_congr (fun i hi => by
              unfold tkF takF
              have := e3 i hi
              by_cases h : D.2 12 i = k ∨ D.2 13 i = k
              · rw [if_pos h, if_pos ⟨h, this⟩]
              · rw [if_neg h, if_neg (fun z => h z.1)])
            rw [this]
          rw [e, if_neg (by decide), m_openOf hN Mτ V (by omega) (by omega), Option.bind_some, v]
        · have v : pL D' G k = rabs (D.2 7 k) := by
            unfold pL
            rw [if_neg q1, e2]
            show rabs (D.2 7 k) - 0 = _
            omega
          rw [e, if_pos rfl, m_result Mτ V (by omega) (by omega), Option.bind_some, Option.bind_some, Option.bind_some, jneg_eq ⟨by omega, by omega⟩, v]
          unfold rabs
          by_cases z : 0 ≤ D.2 7 k
          · rw [if_pos z, if_neg (by omega)]
          · rw [if_neg z, if_pos (by omega)]
  · obtain ⟨u, τ⟩ := q
    obtain ⟨rfl, i2, -⟩ := hI
    have Mτ : ModR τ D := M.fr V (fun a z q => (i2 a z (by omega) (by omega)).trans (f1 a z (by omega)))
    show F_X12_laysAll_B7 N nx cl (dp D : Int) τ = _
    unfold F_X12_laysAll_B7
    rw [Mτ.1.1.2.1, if_pos (Int.le_refl _)]
end LAYS
