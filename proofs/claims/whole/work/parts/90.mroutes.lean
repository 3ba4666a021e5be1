/-! THE REFERENCE'S FLOW: the best way to each PERIOD, the best end -/
/-- where ways begin -/
abbrev srcF (n : Nat) (sd : Nat → Int) (s : St) : Nat → Prop := fun v => v < n ∧ sd v < 0 ∧ 0 < s.2 v
section MRT
variable {N : Nat} {σ : Sto} {D : Dk} {n : Nat} {sd : Nat → Int} {c pr : Nat → Nat → Int} {s : St} {lab0 lab : Nat → List Nat}
theorem ModR.fl {σ' : Sto} (M : ModR σ D) (V : Val D) (e : ∀ a j, ¬ (105 ≤ a ∧ a ≤ 110) → ¬ (a = 94 ∧ j = 37) → σ'.1 a j = σ.1 a j) : ModR σ' D := M.fr V (fun a j h => e a j (by omega) (by omega))
theorem m_pair (hN : BigN N) (V : Val D) (M : ModR σ D) (Q : Prb D n sd c pr) (O : FOK n sd c pr) (S : SOK n sd c pr s) {π : Nat → Int} (hπ : ∀ u v, GE n sd c s.1 u v → 0 ≤ GW sd pr u v + π u - π v) (hf0 : FL true (GE n sd c s.1) (GW sd pr) (srcF n sd s) n lab0) (X : FlowM σ n c s) (L : LabM σ n (GW sd pr) lab) {i j : Nat} {mv : Int} (R : RInv true (GE n sd c s.1) (GW sd pr) (srcF n sd s) n lab0 lab (PrK sd i j) mv) (hi : i < n) (hj : j < n) : ∃ mv' σ' lab', (∀ x y nx, F_X12_laysRoutes_B81 N x y nx i mv j σ = nx (mv', (j : Int) + 1, σ')) ∧ LabM σ' n (GW sd pr) lab' ∧ RInv true (GE n sd c s.1) (GW sd pr) (srcF n sd s) n lab0 lab' (PrK sd i (j + 1)) mv' ∧ (∀ a z, ¬ (108 ≤ a ∧ a ≤ 110) → σ'.1 a z = σ.1 a z) := by
  have hn := O.1
  have nd := Q.1
  have hw : ∀ u v, -198 ≤ GW sd pr u v ∧ GW sd pr u v ≤ 198 := fun u v => GW_bd O u v
  have hnE : ∀ u v, GE n sd c s.1 u v → v < n := fun u v h => h.2.1
  have ix : ja (jm 12 (i : Int)) (j : Int) = 12 * i + j := ix12' (by omega) (by omega) (by omega) (by omega)
  have p0 := O.2.1 i j
  have cc := O.2.2.2 i j
  have sij := S.1 i j
  have J152 : ∀ x y nx v τ, F_X12_laysRoutes_J152 N x y nx v i j τ = nx (v, (j : Int) + 1, τ) := fun x y nx v τ => by
    unfold F_X12_laysRoutes_J152
    rw [ja_1 (by omega) (by omega)]
  by_cases hs : sd i < 0
  · -- forth
    have h1 : ∃ mv1 σ1 lab1, (∀ x y nx, F_X12_laysRoutes_B81 N x y nx i mv j σ = F_X12_laysRoutes_J120 N x y nx mv1 i j σ1) ∧ LabM σ1 n (GW sd pr) lab1 ∧ RInv true (GE n sd c s.1) (GW sd pr) (srcF n sd s) n lab0 lab1 (PrH sd i j i j) mv1 ∧ (∀ a z, ¬ (108 ≤ a ∧ a ≤ 110) → σ1.1 a z = σ.1 a z) := by
      by_cases e : GE n sd c s.1 i j
      · have e' := GE_iff.mp e
        obtain ⟨q, σ1, lab1, r1, r0, r2, r3, r4⟩ := m_half (N := N) (Pr' := PrH sd i j i j) hN hw hn hπ hnE hf0 L R hi hj (fun a b h => h) e
        have e3 : GW sd pr i j = prc D i j := by rw [GW_L hs, Q.2.2 i j (by omega)]
        rw [e3] at r1
        refine ⟨if q = 0 then mv else 1, σ1, lab1, fun x y nx => ?_, r2, r3, r4⟩
        unfold F_X12_laysRoutes_B81
        rw [M.1.1.2.1, if_neg (by omega), ix, inb_in (by omega), X.2.1 i j hi hj, if_neg (by omega), m_priceOf M V (by omega) (by omega) (by omega) (by omega), Option.bind_some, r1, Option.bind_some]
        show (if q = 0 then _ else _) = _
        split <;> rfl
      · refine ⟨mv, σ, lab, fun x y nx => ?_, L, R.skip (fun a b h => h) e, fun _ _ _ => rfl⟩
        have e' : ¬ (i < n ∧ j < n ∧ ((sd i < 0 ∧ 0 < sd j ∧ s.1 i j < c i j) ∨ (0 < sd i ∧ sd j < 0 ∧ 0 < s.1 j i))) := e
        unfold F_X12_laysRoutes_B81
        rw [M.1.1.2.1, if_neg (by omega), ix, inb_in (by omega), X.2.1 i j hi hj, if_pos (by
          by_cases z : 0 < c i j
          · have := cc z; omega
          · omega)]
    obtain ⟨mv1, σ1, lab1, a1, a2, a3, a4⟩ := h1
    have X1 : FlowM σ1 n c s := X.cg (fun a z h => a4 a z (by omega))
    have M1 : ModR σ1 D := M.fl V (fun a z h _ => a4 a z (by omega))
    -- back
    have h2 : ∃ mv2 σ2 lab2, (∀ x y nx, F_X12_laysRoutes_J120 N x y nx mv1 i j σ1 = nx (mv2, (j : Int) + 1, σ2)) ∧ LabM σ2 n (GW sd pr) lab2 ∧ RInv true (GE n sd c s.1) (GW sd pr) (srcF n sd s) n lab0 lab2 (PrK sd i (j + 1)) mv2 ∧ (∀ a z, ¬ (108 ≤ a ∧ a ≤ 110) → σ2.1 a z = σ1.1 a z) := by
      by_cases e : GE n sd c s.1 j i
      · have e' := GE_iff.mp e
        obtain ⟨q, σ2, lab2, r1, r0, r2, r3, r4⟩ := m_half (N := N) (Pr' := PrK sd i (j + 1)) hN hw hn hπ hnE hf0 a2 a3 hj hi (fun a b h => PrH_full' h) e
        have e3 : GW sd pr j i = - prc D i j := by rw [GW_P (by omega), Q.2.2 i j (by omega)]
        have e4 : prc D i j = pr i j := Q.2.2 i j (by omega)
        rw [e3] at r1
        refine ⟨if q = 0 then mv1 else 1, σ2, lab2, fun x y nx => ?_, r2, r3, r4⟩
        unfold F_X12_laysRoutes_J120
        rw [ix, inb_in (by omega), X1.2.2 i j (by omega) (by omega), if_neg (by omega), m_priceOf M1 V (by omega) (by omega) (by omega) (by omega), Option.bind_some, jneg_eq ⟨by omega, by omega⟩, r1, Option.bind_some]
        show (if q = 0 then _ else _) = _
        rw [J152, J152]
        split <;> rfl
      · refine ⟨mv1, σ1, lab1, fun x y nx => ?_, a2, a3.skip (fun a b h => PrH_full' h) e, fun _ _ _ => rfl⟩
        have e' : ¬ (j < n ∧ i < n ∧ ((sd j < 0 ∧ 0 < sd i ∧ s.1 j i < c j i) ∨ (0 < sd j ∧ sd i < 0 ∧ 0 < s.1 i j))) := e
        unfold F_X12_laysRoutes_J120
        rw [ix, inb_in (by omega), X1.2.2 i j (by omega) (by omega), if_pos (by
          by_cases z : 0 < c i j
          · have := cc z; omega
          · omega), J152]
    obtain ⟨mv2, σ2, lab2, b1, b2, b3, b4⟩ := h2
    exact ⟨mv2, σ2, lab2, fun x y nx => (a1 x y nx).trans (b1 x y nx), b2, b3, fun a z h => (b4 a z h).trans (a4 a z h)⟩
  · have c0 : ¬ 0 < c i j := fun z => hs (cc z).2.2.1
    refine ⟨mv, σ, lab, fun x y nx => ?_, L, ⟨R.1, R.2.1, fun a b p e l => R.2.2.1 a b ?_ e l, R.2.2.2⟩, fun _ _ _ => rfl⟩
    · unfold F_X12_laysRoutes_B81 F_X12_laysRoutes_J120
      rw [M.1.1.2.1, if_neg (by omega), ix, inb_in (by omega), X.2.1 i j hi hj, if_pos (by omega), inb_in (by omega), X.2.2 i j (by omega) (by omega), if_pos (by omega), J152]
    · unfold PrK at p ⊢
      rcases p with ⟨p1, p2⟩ | ⟨p1, p2⟩
      · by_cases z : b = i
        · subst z; exact absurd p1 hs
        · exact Or.inl ⟨p1, by omega⟩
      · by_cases z : a = i
        · subst z; exact absurd p1 hs
        · exact Or.inr ⟨p1, by omega⟩
theorem m_round (hN : BigN N) (V : Val D) (M : ModR σ D) (Q : Prb D n sd c pr) (O : FOK n sd c pr) (S : SOK n sd c pr s) {π : Nat → Int} (hπ : ∀ u v, GE n sd c s.1 u v → 0 ≤ GW sd pr u v + π u - π v) (hf0 : FL true (GE n sd c s.1) (GW sd pr) (srcF n sd s) n lab) (X : FlowM σ n c s) (L : LabM σ n (GW sd pr) lab) {r : Nat} (hd : Dom true (GE n sd c s.1) (GW sd pr) (srcF n sd s) lab r) : ∃ mv σ' lab', (∀ x, F_X12_laysRoutes_B63 N x 1 σ = x (mv, σ')) ∧ LabM σ' n (GW sd pr) lab' ∧ (∀ a z, ¬ (108 ≤ a ∧ a ≤ 110) → σ'.1 a z = σ.1 a z) ∧ FL true (GE n sd c s.1) (GW sd pr) (srcF n sd s) n lab' ∧ Dom true (GE n sd c s.1) (GW sd pr) (srcF n sd s) lab' (r + 1) ∧ ((mv = 0 ∧ ∀ a b, GE n sd c s.1 a b → lab' a ≠ [] → lab' b ≠ [] ∧ ¬ ahz true (GW sd pr) (lab' a ++ [b]) (lab' b)) ∨ (mv = 1 ∧ ¬ n ≤ r + 1)) := by
  have hn := O.1
  have nd := Q.1
  have vz := V.sz
  refine Exists.elim (loop_X (b := fun x q nx => F_X12_laysRoutes_B71 N x nx q.1 q.2.1 q.2.2) (fin := fun x q => x (q.1, q.2.2)) (N := N) (s0 := ((0 : Int), (0 : Int), σ)) (fun k q => q.2.1 = k ∧ (∀ a z, ¬ (108 ≤ a ∧ a ≤ 110) → q.2.2.1 a z = σ.1 a z) ∧ ∃ lab', LabM q.2.2 n (GW sd pr) lab' ∧ RInv true (GE n sd c s.1) (GW sd pr) (srcF n sd s) n lab lab' (PrK sd k 0) q.1) n (bigN hN) ⟨rfl, fun _ _ _ => rfl, lab, L, RInv.ini hf0 PrK_0⟩ (fun k q hk hI => ?_) (fun q hI x nx => ?_)) (fun q hq => ?_)
  rotate_right
  · obtain ⟨⟨j1, j2, lab', j3, j4⟩, hx⟩ := hq
    obtain ⟨e1, e2, e3⟩ := j4.fin hf0 hd (fun a b h => by
      have h := GE_iff.mp h
      unfold PrK; omega)
    refine ⟨q.1, q.2.2, lab', fun x => ?_, j3, j2, e1, e2, e3⟩
    unfold F_X12_laysRoutes_B63
    rw [if_neg (by decide)]
    exact hx x
  · obtain ⟨mv, u, τ⟩ := q
    obtain ⟨rfl, i2, lab1, i3, i4⟩ := hI
    have M1 : ModR τ D := M.fl V (fun a z h _ => i2 a z (by omega))
    refine Exists.elim (loop_X (X := ((Int × Sto) → Option Sto) × ((Int × Int × Sto) → Option Sto)) (b := fun x q nx81 => F_X12_laysRoutes_B81 N x.1 x.2 nx81 k q.1 q.2.1 q.2.2) (fin := fun x q => x.2 (q.1, (k : Int) + 1, q.2.2)) (N := N) (s0 := (mv, (0 : Int), τ)) (fun m q => q.2.1 = m ∧ (∀ a z, ¬ (108 ≤ a ∧ a ≤ 110) → q.2.2.1 a z = σ.1 a z) ∧ ∃ lab', LabM q.2.2 n (GW sd pr) lab' ∧ RInv true (GE n sd c s.1) (GW sd pr) (srcF n sd s) n lab lab' (PrK sd k m) q.1) n (bigN hN) ⟨rfl, i2, lab1, i3, i4⟩ (fun m q hm hI => ?_) (fun q hI x nx => ?_)) (fun q hq => ?_)
    rotate_right
    · obtain ⟨⟨j1, j2, lab', j3, j4⟩, hx⟩ := hq
      refine ⟨(q.1, (k : Int) + 1, q.2.2), ⟨by show (k : Int) + 1 = _; omega, j2, lab', j3, j4.1, j4.2.1, fun a b p e l => ?_, j4.2.2.2⟩, fun x nx => ?_⟩
      · exact j4.2.2.1 a b (PrK_next (Nat.le_refl n) e.1 e.2.1 p) e l
      · show F_X12_laysRoutes_B71 N x nx mv (k : Int) τ = _
        unfold F_X12_laysRoutes_B71
        rw [M1.1.1.2.1, if_neg (by omega)]
        exact hx (x, nx)
    · obtain ⟨mv', u, τ'⟩ := q
      obtain ⟨rfl, l2, lab2, l3, l4⟩ := hI
      obtain ⟨mv2, σ2, lab3, q1, q2, q3, q4⟩ := m_pair (N := N) hN V (M.fl V (fun a z h _ => l2 a z (by omega))) Q O S hπ hf0 (X.cg (fun a z h => l2 a z (by omega))) l3 l4 hk hm
      exact ⟨(mv2, (m : Int) + 1, σ2), ⟨by show (m : Int) + 1 = _; omega, fun a z h => (q4 a z h).trans (l2 a z h), lab3, q2, q3⟩, fun x nx => q1 x.1 x.2 nx⟩
    · obtain ⟨mv', u, τ'⟩ := q
      obtain ⟨rfl, l2, -⟩ := hI
      have M2 : ModR τ' D := M.fl V (fun a z h _ => l2 a z (by omega))
      show F_X12_laysRoutes_B81 N x.1 x.2 nx k mv' (n : Int) τ' = _
      unfold F_X12_laysRoutes_B81 F_X12_laysRoutes_J158
      rw [M2.1.1.2.1, if_pos (by omega), ja_1 (by omega) (by omega)]
  · obtain ⟨mv, u, τ⟩ := q
    obtain ⟨rfl, i2, -⟩ := hI
    have M1 : ModR τ D := M.fl V (fun a z h _ => i2 a z (by omega))
    show F_X12_laysRoutes_B71 N x nx mv (n : Int) τ = _
    unfold F_X12_laysRoutes_B71 F_X12_laysRoutes_J164
    rw [M1.1.1.2.1, if_pos (by omega)]
/-- labels at their end -/
def LabE (σ : Sto) (n : Nat) (sd : Nat → Int) (c pr : Nat → Nat → Int) (s : St) (lab : Nat → List Nat) : Prop := LabM σ n (GW sd pr) lab ∧ FL true (GE n sd c s.1) (GW sd pr) (srcF n sd s) n lab ∧ ∀ Q : List Nat, Wk (GE n sd c s.1) Q → srcF n sd s (Q.headD 0) → lab (lastOf Q) ≠ [] ∧ ¬ ahz true (GW sd pr) Q (lab (lastOf Q))
theorem src_D (Q : Prb D n sd c pr) (S : SOK n sd c pr s) (Z : Zr n sd s) {u : Nat} (hu : u < n) : (D.2 7 u < 0 ∧ 0 < s.2 u) ↔ (sd u < 0 ∧ 0 < s.2 u) := by
  rcases Q.2.1 u hu with e | e
  · rw [e, sgnN]
  · have := Z u hu e; omega
theorem snk_D (Q : Prb D n sd c pr) (S : SOK n sd c pr s) (Z : Zr n sd s) {u : Nat} (hu : u < n) : (0 < D.2 7 u ∧ 0 < s.2 u) ↔ (0 < sd u ∧ 0 < s.2 u) := by
  rcases Q.2.1 u hu with e | e
  · rw [e, sgnP]
  · have := Z u hu e; omega
theorem m_laysRoutes (hN : BigN N) (V : Val D) (M : ModR σ D) (Q : Prb D n sd c pr) (O : FOK n sd c pr) (S : SOK n sd c pr s) (Z : Zr n sd s) (X : FlowM σ n c s) : ∃ σ' lab, F_X12_laysRoutes N σ = some σ' ∧ (∀ a z, ¬ (108 ≤ a ∧ a ≤ 110) → σ'.1 a z = σ.1 a z) ∧ LabE σ' n sd c pr s lab := by
  have hn := O.1
  have nd := Q.1
  have vz := V.sz
  obtain ⟨π, hπ⟩ := S.2.2
  have st0 : FL true (GE n sd c s.1) (GW sd pr) (srcF n sd s) n (fun v => @ite _ (srcF n sd s v) (Classical.propDecidable _) [v] []) := FL.start (fun v h => h.1) (fun v => by
    by_cases h : srcF n sd s v
    · exact Or.inl ⟨h, if_pos h⟩
    · exact Or.inr ⟨h, if_neg h⟩)
  have d0 := Dom.zero st0
  have A : ∃ σ1, F_X12_laysRoutes N σ = F_X12_laysRoutes_J61 N σ1 ∧ (∀ a z, ¬ (108 ≤ a ∧ a ≤ 110) → σ1.1 a z = σ.1 a z) ∧ LabM σ1 n (GW sd pr) (fun v => @ite _ (srcF n sd s v) (Classical.propDecidable _) [v] []) := by
    unfold F_X12_laysRoutes
    refine Exists.elim (loop_A (b := fun q nx => F_X12_laysRoutes_B2 N nx q.1 q.2) (fin := fun q => F_X12_laysRoutes_J61 N q.2) (N := N) (s0 := ((0 : Int), σ)) (fun k q => q.1 = k ∧ (∀ a z, ¬ (108 ≤ a ∧ a ≤ 110) → q.2.1 a z = σ.1 a z) ∧ ∀ v : Nat, v < k → q.2.1 108 v = 0 ∧ q.2.1 109 v = (if sd v < 0 ∧ 0 < s.2 v then 1 else 0) ∧ q.2.1 110 (12 * v) = v) n (bigN hN) ⟨rfl, fun _ _ _ => rfl, fun v h => by omega⟩ (fun k q hk hI => ?_) (fun q hI nx => ?_)) (fun q hq => ?_)
    rotate_right
    · obtain ⟨⟨j1, j2, j3⟩, hx⟩ := hq
      refine ⟨q.2, hx, j2, fun v hv => ?_⟩
      have jv := j3 v hv
      by_cases h : srcF n sd s v
      · have e : (fun v => @ite _ (srcF n sd s v) (Classical.propDecidable _) [v] ([] : List Nat)) v = [v] := if_pos h
        rw [e, jv.1, jv.2.1, if_pos h.2]
        refine ⟨rfl, rfl, fun k hk => ?_⟩
        have k0 : k = 0 := by have : k < 1 := hk; omega
        subst k0
        show q.2.1 110 (12 * (v : Int) + ((0 : Nat) : Int)) = (v : Int)
        rw [show 12 * (v : Int) + ((0 : Nat) : Int) = 12 * v by omega]; exact jv.2.2
      · have e : (fun v => @ite _ (srcF n sd s v) (Classical.propDecidable _) [v] ([] : List Nat)) v = [] := if_neg h
        rw [e, jv.1, jv.2.1, if_neg (fun z => h ⟨hv, z⟩)]
        exact ⟨rfl, rfl, fun k hk => absurd hk (Nat.not_lt_zero _)⟩
    · obtain ⟨u, τ⟩ := q
      obtain ⟨rfl, i2, i3⟩ := hI
      have M1 : ModR τ D := M.fl V (fun a z h _ => i2 a z (by omega))
      have sd' := src_D Q S Z hk
      refine ⟨((k : Int) + 1, upI (upI (upI τ 109 k (if sd k < 0 ∧ 0 < s.2 k then 1 else 0)) 108 k 0) 110 (12 * k) k), ⟨by show (k : Int) + 1 = _; omega, fun a z h => ?_, fun v hv => ?_⟩, fun nx => ?_⟩
      · show (upI (upI (upI τ _ _ _) _ _ _) _ _ _).1 a z = _
        rw [up_pl (by omega), up_pl (by omega), up_pl (by omega)]; exact i2 a z h
      · show (upI (upI (upI τ _ _ _) _ _ _) _ _ _).1 _ _ = _ ∧ (upI (upI (upI τ _ _ _) _ _ _) _ _ _).1 _ _ = _ ∧ (upI (upI (upI τ _ _ _) _ _ _) _ _ _).1 _ _ = _
        by_cases e : v = k
        · subst e
          refine ⟨?_, ?_, up_same⟩
          · rw [up_pl (by decide), up_same]
          · rw [up_pl (by decide), up_pl (by decide), up_same]
        · refine ⟨?_, ?_, ?_⟩
          · rw [up_pl (by decide), up_ix (by omega), up_pl (by decide)]; exact (i3 v (by omega)).1
          · rw [up_pl (by decide), up_pl (by decide), up_ix (by omega)]; exact (i3 v (by omega)).2.1
          · rw [up_ix (by omega), up_pl (by decide), up_pl (by decide)]; exact (i3 v (by omega)).2.2
      · show F_X12_laysRoutes_B2 N nx (k : Int) τ = _
        have e12 : jm 12 (k : Int) = 12 * k := jm_eq ⟨by omega, by omega⟩
        have J : ∀ v, F_X12_laysRoutes_J37 N nx k k v τ = nx ((k : Int) + 1, upI (upI (upI τ 109 k v) 108 k 0) 110 (12 * k) k) := fun v => by
          unfold F_X12_laysRoutes_J37
          rw [e12, inb_in (by omega), inb_in (by omega), inb_in (by omega), ja_1 (by omega) (by omega)]
        unfold F_X12_laysRoutes_B2 F_X12_laysRoutes_J36
        rw [M1.1.1.2.1, if_neg (by omega), m_result M1 V (by omega) (by omega), Option.bind_some, J, J, inb_in (by omega), i2 105 _ (by omega), X.1 k hk]
        by_cases h1 : 0 ≤ D.2 7 k
        · rw [if_pos h1, if_neg (fun z => by have := sd'.mpr z; omega)]
        · rw [if_neg h1]
          by_cases h2 : s.2 k ≤ 0
          · rw [if_pos h2, if_neg (by omega)]
          · rw [if_neg h2, if_pos (sd'.mp ⟨by omega, by omega⟩)]
    · obtain ⟨u, τ⟩ := q
      obtain ⟨rfl, i2, -⟩ := hI
      have M1 : ModR τ D := M.fl V (fun a z h _ => i2 a z (by omega))
      show F_X12_laysRoutes_B2 N nx (n : Int) τ = _
      unfold F_X12_laysRoutes_B2
      rw [M1.1.1.2.1, if_pos (by omega)]
  obtain ⟨σ1, A1, A2, A3⟩ := A
  have B : ∃ σ', (∃ lab, (∀ a z, ¬ (108 ≤ a ∧ a ≤ 110) → σ'.1 a z = σ1.1 a z) ∧ LabM σ' n (GW sd pr) lab ∧ FL true (GE n sd c s.1) (GW sd pr) (srcF n sd s) n lab ∧ ∀ a b, GE n sd c s.1 a b → lab a ≠ [] → lab b ≠ [] ∧ ¬ ahz true (GW sd pr) (lab a ++ [b]) (lab b)) ∧ ∀ _ : Unit, F_X12_laysRoutes_J61 N σ1 = some σ' := by
    unfold F_X12_laysRoutes_J61
    refine loop_E (X := Unit) (b := fun _ q nx => F_X12_laysRoutes_B63 N nx q.1 q.2) (fin := fun _ r => some r) (s0 := ((1 : Int), σ1)) (fun k q => (∀ a z, ¬ (108 ≤ a ∧ a ≤ 110) → q.2.1 a z = σ1.1 a z) ∧ ∃ lab, LabM q.2 n (GW sd pr) lab ∧ FL true (GE n sd c s.1) (GW sd pr) (srcF n sd s) n lab ∧ Dom true (GE n sd c s.1) (GW sd pr) (srcF n sd s) lab k ∧ ((q.1 = 0 ∧ ∀ a b, GE n sd c s.1 a b → lab a ≠ [] → lab b ≠ [] ∧ ¬ ahz true (GW sd pr) (lab a ++ [b]) (lab b)) ∨ (q.1 = 1 ∧ (k = 0 ∨ k < n)))) _ (n + 1) (bigN hN) ⟨fun _ _ _ => rfl, _, A3, st0, d0, Or.inr ⟨rfl, Or.inl rfl⟩⟩ (fun k q hk hI => ?_)
    obtain ⟨mv, τ⟩ := q
    obtain ⟨i2, lab, i3, i4, i5, i6⟩ := hI
    have f : ∀ a z, ¬ (108 ≤ a ∧ a ≤ 110) → τ.1 a z = σ.1 a z := fun a z h => (i2 a z h).trans (A2 a z h)
    have X1 : FlowM τ n c s := X.cg (fun a z h => f a z (by omega))
    have M1 : ModR τ D := M.fl V (fun a z h _ => f a z (by omega))
    rcases i6 with ⟨rfl, i6⟩ | ⟨rfl, i6⟩
    · refine Or.inr ⟨τ, ⟨lab, i2, i3, i4, i6⟩, fun x nx => ?_⟩
      show F_X12_laysRoutes_B63 N nx 0 τ = _
      unfold F_X12_laysRoutes_B63
      rw [if_pos rfl]
    · obtain ⟨mv2, σ2, lab2, q1, q2, q3, q4, q5, q6⟩ := m_round (N := N) hN V M1 Q O S hπ i4 X1 i3 i5
      refine Or.inl ⟨by omega, (mv2, σ2), ⟨fun a z h => (q3 a z h).trans (i2 a z h), lab2, q2, q4, q5, ?_⟩, fun x nx => q1 nx⟩
      rcases q6 with q6 | ⟨q6, q7⟩
      · exact Or.inl q6
      · exact Or.inr ⟨q6, Or.inr (by omega)⟩
  obtain ⟨σ', ⟨lab, B1, B2, B3, B4⟩, hB⟩ := B
  refine ⟨σ', lab, A1.trans (hB ()), fun a z h => (B1 a z h).trans (A2 a z h), B2, B3, fun Q h1 h2 => ?_⟩
  exact FL.best hπ (fun u v h => h.2.1) B3 (Nat.le_refl n) (fun a b h l _ => B4 a b h l) Q.length Q rfl h1 h2
theorem m_bestEnd (hN : BigN N) (V : Val D) (M : ModR σ D) (Q : Prb D n sd c pr) (O : FOK n sd c pr) (S : SOK n sd c pr s) (Z : Zr n sd s) (X : FlowM σ n c s) (L : LabE σ n sd c pr s lab) : ∃ r : Int, F_X12_bestEnd N σ = some r ∧ ((r = -1 ∧ ∀ P, ¬ Rt n sd c s P) ∨ ∃ e : Nat, r = e ∧ e < n ∧ lab e ≠ [] ∧ lastOf (lab e) = e ∧ (lab e).Nodup ∧ Bst n sd c pr s (lab e)) := by
  have hn := O.1
  have nd := Q.1
  have vz := V.sz
  have cand : ∀ e, e < n → lab e ≠ [] → 0 < sd e ∧ 0 < s.2 e → Rt n sd c s (lab e) := fun e h1 h2 h3 => by
    have q := L.2.1.1 e h2
    exact ⟨q.1, q.2.2.1, by rw [q.2.1]; exact ⟨h1, h3⟩⟩
  unfold F_X12_bestEnd
  refine Exists.elim (loop_A (b := fun q nx => F_X12_bestEnd_B4 N nx q.1 q.2 σ) (fin := fun q => some q.1) (N := N) (s0 := ((-1 : Int), (0 : Int))) (fun k q => q.2 = k ∧ ((q.1 = -1 ∧ ∀ u, u < k → ¬ (lab u ≠ [] ∧ 0 < sd u ∧ 0 < s.2 u)) ∨ ∃ e : Nat, q.1 = e ∧ e < k ∧ (lab e ≠ [] ∧ 0 < sd e ∧ 0 < s.2 e) ∧ ∀ u, u < k → (lab u ≠ [] ∧ 0 < sd u ∧ 0 < s.2 u) → ¬ ahz true (GW sd pr) (lab u) (lab e))) n (bigN hN) ⟨rfl, Or.inl ⟨rfl, fun u h => by omega⟩⟩ (fun k q hk hI => ?_) (fun q hI nx => ?_)) (fun q hq => ?_)
  rotate_right
  · obtain ⟨⟨j1, j2⟩, hx⟩ := hq
    refine ⟨q.1, hx, ?_⟩
    rcases j2 with ⟨j2, j3⟩ | ⟨e, j2, j3, j4, j5⟩
    · refine Or.inl ⟨j2, fun P hP => ?_⟩
      have b := L.2.2 P hP.1 hP.2.1
      exact j3 _ hP.2.2.1 ⟨b.1, hP.2.2.2⟩
    · have q2 := L.2.1.1 e j4.1
      refine Or.inr ⟨e, j2, j3, j4.1, q2.2.1, q2.2.2.2.1, cand e j3 j4.1 j4.2, fun P hP => ?_⟩
      have b := L.2.2 P hP.1 hP.2.1
      have a := j5 _ hP.2.2.1 ⟨b.1, hP.2.2.2⟩
      intro z
      exact nah_trans a b.2 (ahz_true.mpr z)
  · obtain ⟨v1, u⟩ := q
    obtain ⟨rfl, i2⟩ := hI
    have sd' := snk_D Q S Z hk
    have s0 := (S.2.1 k hk).1
    have unf : ∀ nx, F_X12_bestEnd_B4 N nx v1 k σ = if 0 < D.2 7 k ∧ 0 < s.2 k ∧ (lab k).length ≠ 0 then (if v1 < 0 then nx ((k : Int), (k : Int) + 1) else ((F_X12_isAhead N k v1 σ).bind (fun q8 => if q8 = 0 then nx (v1, (k : Int) + 1) else nx ((k : Int), (k : Int) + 1)))) else nx (v1, (k : Int) + 1) := fun nx => by
      unfold F_X12_bestEnd_B4 F_X12_bestEnd_J54 F_X12_bestEnd_J56
      rw [M.1.1.2.1, if_neg (by omega), m_result M V (by omega) (by omega), Option.bind_some, inb_in (by omega), X.1 k hk, (L.1 k hk).2.1, ja_1 (by omega) (by omega)]
      by_cases h1 : D.2 7 k ≤ 0
      · rw [if_pos h1, if_neg (by omega)]
      · rw [if_neg h1]
        by_cases h2 : s.2 k = 0
        · rw [if_pos h2, if_neg (by omega)]
        · rw [if_neg h2]
          by_cases h3 : (lab k).length = 0
          · rw [if_pos (by omega), if_neg (by omega)]
          · rw [if_neg (by omega), if_pos (show 0 < D.2 7 k ∧ 0 < s.2 k ∧ (lab k).length ≠ 0 from ⟨by omega, by omega, h3⟩)]
    by_cases hc : lab k ≠ [] ∧ 0 < sd k ∧ 0 < s.2 k
    · have hl := len_nz hc.1
      have hd := sd'.mpr hc.2
      rcases i2 with ⟨e1, e2⟩ | ⟨e, e1, e2, e3, e4⟩
      · refine ⟨((k : Int), (k : Int) + 1), ⟨by show (k : Int) + 1 = _; omega, Or.inr ⟨k, rfl, by omega, hc, fun u hu cu => ?_⟩⟩, fun nx => ?_⟩
        · by_cases z : u = k
          · subst z; exact fun r => ahz_asymm r r
          · exact absurd cu (e2 u (by omega))
        · show F_X12_bestEnd_B4 N nx v1 k σ = _
          rw [unf nx, if_pos ⟨hd.1, hd.2, hl⟩, if_pos (by omega)]
      · have e1 : v1 = e := e1
        subst e1
        obtain ⟨r, r1, r2⟩ := m_isAhead (N := N) hN hn L.1 L.2.1 hk (by omega : e < n)
        rcases r2 with ⟨rfl, r2⟩ | ⟨rfl, r2⟩
        · refine ⟨((k : Int), (k : Int) + 1), ⟨by show (k : Int) + 1 = _; omega, Or.inr ⟨k, rfl, by omega, hc, fun u hu cu => ?_⟩⟩, fun nx => ?_⟩
          · by_cases z : u = k
            · subst z; exact fun r => ahz_asymm r r
            · exact fun r => e4 u (by omega) cu (ahz_trans r r2)
          · show F_X12_bestEnd_B4 N nx e k σ = _
            rw [unf nx, if_pos ⟨hd.1, hd.2, hl⟩, if_neg (by omega), r1, Option.bind_some, if_neg (by decide)]
        · refine ⟨((e : Int), (k : Int) + 1), ⟨by show (k : Int) + 1 = _; omega, Or.inr ⟨e, rfl, by omega, e3, fun u hu cu => ?_⟩⟩, fun nx => ?_⟩
          · by_cases z : u = k
            · subst z; exact r2
            · exact e4 u (by omega) cu
          · show F_X12_bestEnd_B4 N nx e k σ = _
            rw [unf nx, if_pos ⟨hd.1, hd.2, hl⟩, if_neg (by omega), r1, Option.bind_some, if_pos rfl]
    · refine ⟨(v1, (k : Int) + 1), ⟨by show (k : Int) + 1 = _; omega, ?_⟩, fun nx => ?_⟩
      · rcases i2 with ⟨e1, e2⟩ | ⟨e, e1, e2, e3, e4⟩
        · refine Or.inl ⟨e1, fun u hu => ?_⟩
          by_cases z : u = k
          · subst z; exact hc
          · exact e2 u (by omega)
        · refine Or.inr ⟨e, e1, by omega, e3, fun u hu cu => ?_⟩
          by_cases z : u = k
          · subst z; exact absurd cu hc
          · exact e4 u (by omega) cu
      · show F_X12_bestEnd_B4 N nx v1 k σ = _
        rw [unf nx, if_neg (fun z => hc ⟨fun y => z.2.2 (by rw [y]; rfl), sd'.mp ⟨z.1, z.2.1⟩⟩)]
  · obtain ⟨v1, u⟩ := q
    obtain ⟨rfl, -⟩ := hI
    show F_X12_bestEnd_B4 N nx v1 (n : Int) σ = _
    unfold F_X12_bestEnd_B4
    rw [M.1.1.2.1, if_pos (by omega)]
end MRT
