/-! THE CLASS'S FLOW: measuring -/
def FlowX (σ : Sto) (t n : Nat) (sd : Nat → Int) (c pr : Nat → Nat → Int) (s : St) : Prop := σ.1 t 11 = n ∧ (∀ i : Nat, i < n → σ.1 (t + 1) i = sd i ∧ σ.1 (t + 2) i = s.2 i) ∧ (∀ i j : Nat, i < n → j < n → (sd i < 0 → 0 < sd j → σ.1 (t + 3) (12 * i + j) = c i j) ∧ σ.1 (t + 4) (12 * i + j) = pr i j) ∧ ∀ i j : Nat, i < 12 → j < 12 → σ.1 (t + 5) (12 * i + j) = s.1 i j
def LabX (σ : Sto) (t n : Nat) (w : Nat → Nat → Int) (lab : Nat → List Nat) : Prop := ∀ v : Nat, v < n → σ.1 (t + 6) v = wc w (lab v) ∧ σ.1 (t + 7) v = (lab v).length
theorem FlowX.cg {σ σ' : Sto} {t n : Nat} {sd : Nat → Int} {c pr : Nat → Nat → Int} {s : St} (h : FlowX σ t n sd c pr s) (e : ∀ a j, (a = t ∧ j = 11) ∨ (t + 1 ≤ a ∧ a ≤ t + 5) → σ'.1 a j = σ.1 a j) : FlowX σ' t n sd c pr s := by
  refine ⟨by rw [e _ _ (by omega)]; exact h.1, fun i hi => ?_, fun i j hi hj => ?_, fun i j hi hj => ?_⟩
  · rw [e _ _ (by omega), e (t + 2) _ (by omega)]; exact h.2.1 i hi
  · rw [e _ _ (by omega), e (t + 4) _ (by omega)]; exact h.2.2.1 i j hi hj
  · rw [e _ _ (by omega)]; exact h.2.2.2 i j hi hj
theorem LabX.cg {σ σ' : Sto} {t n : Nat} {w : Nat → Nat → Int} {lab : Nat → List Nat} (h : LabX σ t n w lab) (e : ∀ a j, a = t + 6 ∨ a = t + 7 → σ'.1 a j = σ.1 a j) : LabX σ' t n w lab := fun v hv => by
  rw [e _ _ (Or.inl rfl), e _ _ (Or.inr rfl)]; exact h v hv
theorem GE_iff {n : Nat} {sd : Nat → Int} {c f : Nat → Nat → Int} {u v : Nat} : GE n sd c f u v ↔ u < n ∧ v < n ∧ ((sd u < 0 ∧ 0 < sd v ∧ f u v < c u v) ∨ (0 < sd u ∧ sd v < 0 ∧ 0 < f v u)) := Iff.rfl
theorem ahz_f {w : Nat → Nat → Int} {P Q : List Nat} : ahz false w P Q ↔ (wc w P < wc w Q ∨ (wc w P = wc w Q ∧ P.length < Q.length)) := by
  unfold ahz; simp
section MEAS
variable {N : Nat} {σ : Sto} {t n : Nat} {sd : Nat → Int} {c pr : Nat → Nat → Int} {s : St} {E : Nat → Nat → Prop} {w : Nat → Nat → Int} {src : Nat → Prop} {lab0 lab : Nat → List Nat}
theorem k_better {x : Nat} (hx : x < 12) (co ln : Int) : F_X1_isBetter N t co ln x σ = some (if co < σ.1 (t + 6) x ∨ (co = σ.1 (t + 6) x ∧ ln < σ.1 (t + 7) x) then 1 else 0) := by
  unfold F_X1_isBetter F_X1_isBetter_J30 F_X1_isBetter_J34
  rw [inb_in (by omega)]
  by_cases h1 : co < σ.1 (t + 6) x
  · rw [if_pos h1, if_pos (Or.inl h1)]
  · rw [if_neg h1]
    by_cases h2 : co = σ.1 (t + 6) x
    · rw [if_pos h2]
      by_cases h3 : σ.1 (t + 7) x ≤ ln
      · rw [if_pos h3, if_neg (by omega)]
      · rw [if_neg h3, if_pos (by omega)]
    · rw [if_neg h2, if_neg (by omega)]
theorem k_improve (hw : ∀ u v, -198 ≤ w u v ∧ w u v ≤ 198) (hn : n ≤ 12) (L : LabX σ t n w lab) (hf : FL false E w src n lab) {a b : Nat} (ha : a < n) (hb : b < n) : ∃ mv σ' lab', F_X1_improve N t b a (w a b) σ = some (mv, σ') ∧ tryE false w lab lab' a b ∧ LabX σ' t n w lab' ∧ (∀ x j, x ≠ t + 6 → x ≠ t + 7 → σ'.1 x j = σ.1 x j) ∧ ((mv = 0 ∧ lab' = lab) ∨ (mv = 1 ∧ lab' = updL lab b (lab a ++ [b]) ∧ lab a ≠ [] ∧ (lab b = [] ∨ ahz false w (lab a ++ [b]) (lab b)))) := by
  have La := L a ha
  have Lb := L b hb
  have l1 := hf.len a
  have l2 := hf.len b
  have b1 := wc_bd hw (lab a)
  have w1 := hw a b
  unfold F_X1_improve F_X1_improve_J54
  rw [inb_in (by omega)]
  by_cases e : lab a = []
  · refine ⟨0, σ, lab, ?_, Or.inl ⟨Or.inl e, rfl⟩, L, fun _ _ _ _ => rfl, Or.inl ⟨rfl, rfl⟩⟩
    rw [La.2, e, if_pos (show ((([] : List Nat).length : Nat) : Int) = 0 from rfl)]
  · have nz := len_nz e
    have lst := (hf.1 a e).2.1
    have c1 : wc w (lab a ++ [b]) = wc w (lab a) + w a b := by rw [wc_snoc e, lst]
    have c2 : (lab a ++ [b]).length = (lab a).length + 1 := by simp
    have cc : ja (σ.1 (t + 6) a) (w a b) = wc w (lab a ++ [b]) := by rw [La.1, c1, ja_eq ⟨by omega, by omega⟩]
    have cl : ja (σ.1 (t + 7) a) 1 = ((lab a ++ [b]).length : Int) := by rw [La.2, c2, ja_1 (by omega) (by omega)]; omega
    have up : LabX (upI (upI σ (t + 6) b (wc w (lab a ++ [b]))) (t + 7) b ((lab a ++ [b]).length : Int)) t n w (updL lab b (lab a ++ [b])) := fun v hv => by
      by_cases ev : v = b
      · subst ev
        rw [up_pl (by omega), up_same, up_same, updL_at]
        exact ⟨rfl, rfl⟩
      · rw [up_pl (by omega), up_ix (by omega), up_ix (by omega), up_pl (by omega), updL_ne ev]
        exact L v hv
    have fr : ∀ x j, x ≠ t + 6 → x ≠ t + 7 → (upI (upI σ (t + 6) b (wc w (lab a ++ [b]))) (t + 7) b ((lab a ++ [b]).length : Int)).1 x j = σ.1 x j := fun x j h1 h2 => by rw [up_pl h2, up_pl h1]
    rw [if_neg (by rw [La.2]; omega), inb_in (by omega), cc, cl, k_better (by omega)]
    by_cases e2 : lab b = []
    · refine ⟨1, _, _, ?_, Or.inr ⟨e, Or.inl e2, rfl⟩, up, fr, Or.inr ⟨rfl, rfl, e, Or.inl e2⟩⟩
      rw [Lb.2, e2, if_pos (show ((([] : List Nat).length : Nat) : Int) = 0 from rfl), inb_in (by omega)]
    · have nz2 := len_nz e2
      rw [if_neg (by rw [Lb.2]; omega), Lb.1, Lb.2]
      by_cases q : ahz false w (lab a ++ [b]) (lab b)
      · refine ⟨1, _, _, ?_, Or.inr ⟨e, Or.inr q, rfl⟩, up, fr, Or.inr ⟨rfl, rfl, e, Or.inr q⟩⟩
        have q2 := ahz_f.mp q
        rw [if_pos (by omega)]
        rw [Option.bind_some, if_neg (by decide : ¬ (1 : Int) = 0), inb_in (by omega)]
      · refine ⟨0, σ, lab, ?_, Or.inl ⟨Or.inr ⟨e2, q⟩, rfl⟩, L, fun _ _ _ _ => rfl, Or.inl ⟨rfl, rfl⟩⟩
        have q2 : ¬ (wc w (lab a ++ [b]) < wc w (lab b) ∨ (wc w (lab a ++ [b]) = wc w (lab b) ∧ (lab a ++ [b]).length < (lab b).length)) := fun z => q (ahz_f.mpr z)
        rw [if_neg (by omega)]
        rw [Option.bind_some, if_pos (rfl : (0 : Int) = 0)]
/-- one way tried, from x to y -/
theorem k_half (hw : ∀ u v, -198 ≤ w u v ∧ w u v ≤ 198) (hn : n ≤ 12) {π : Nat → Int} (hπ : ∀ u v, E u v → 0 ≤ w u v + π u - π v) (hnE : ∀ u v, E u v → v < n) (hf0 : FL false E w src n lab0) (L : LabX σ t n w lab) {Pr Pr' : Nat → Nat → Prop} {mv : Int} (R : RInv false E w src n lab0 lab Pr mv) {x y : Nat} (hx : x < n) (hy : y < n) (hp : ∀ a b, Pr' a b → Pr a b ∨ (a = x ∧ b = y)) (he : E x y) : ∃ q σ' lab', F_X1_improve N t y x (w x y) σ = some (q, σ') ∧ LabX σ' t n w lab' ∧ RInv false E w src n lab0 lab' Pr' (jor mv q) ∧ (∀ a j, a ≠ t + 6 → a ≠ t + 7 → σ'.1 a j = σ.1 a j) := by
  obtain ⟨q, σ', lab', h1, h2, h3, h4, h5⟩ := k_improve (N := N) hw hn L R.1 hx hy
  have m01 : mv = 0 ∨ mv = 1 := by
    rcases R.2.2.2 with h | h
    · exact Or.inl h.1
    · exact Or.inr h.1
  rcases h5 with ⟨rfl, rfl⟩ | ⟨rfl, rfl, h6, h7⟩
  · refine ⟨0, σ', lab', h1, h3, ?_, h4⟩
    have e : jor mv 0 = mv := jor_0 (by rcases m01 with rfl | rfl <;> exact ⟨by omega, by omega⟩)
    rw [e]
    exact R.go0 hπ hnE hf0 hp h2
  · refine ⟨1, σ', _, h1, h3, ?_, h4⟩
    have e : jor mv 1 = 1 := by rcases m01 with rfl | rfl <;> decide
    rw [e]
    exact R.go1 hπ hnE hf0 hp he h6 h7
end MEAS
section MEAS2
variable {N : Nat} {σ : Sto} {t n : Nat} {sd : Nat → Int} {c pr : Nat → Nat → Int} {s : St} {src : Nat → Prop} {lab0 lab : Nat → List Nat}
theorem k_pair (O : FOK n sd c pr) (S : SOK n sd c pr s) {π : Nat → Int} (hπ : ∀ u v, Er (GE n sd c s.1) u v → 0 ≤ wr (GW sd pr) u v + π u - π v) (hf0 : FL false (Er (GE n sd c s.1)) (wr (GW sd pr)) src n lab0) (X : FlowX σ t n sd c pr s) (L : LabX σ t n (wr (GW sd pr)) lab) {i j : Nat} {mv : Int} (R : RInv false (Er (GE n sd c s.1)) (wr (GW sd pr)) src n lab0 lab (PrK sd i j) mv) (hi : i < n) (hj : j < n) (hs : sd i < 0) : ∃ mv' σ' lab', (∀ x nx, F_X1_improveAll_B14 N x nx t i mv j σ = nx (mv', (j : Int) + 1, σ')) ∧ LabX σ' t n (wr (GW sd pr)) lab' ∧ RInv false (Er (GE n sd c s.1)) (wr (GW sd pr)) src n lab0 lab' (PrK sd i (j + 1)) mv' ∧ (∀ a z, a ≠ t + 6 → a ≠ t + 7 → σ'.1 a z = σ.1 a z) := by
  have hn := O.1
  have hw : ∀ u v, -198 ≤ wr (GW sd pr) u v ∧ wr (GW sd pr) u v ≤ 198 := fun u v => GW_bd O v u
  have hnE : ∀ u v, Er (GE n sd c s.1) u v → v < n := fun u v h => h.1
  have ix : ja (jm (i : Int) 12) (j : Int) = 12 * i + j := ix12 (by omega) (by omega) (by omega) (by omega)
  have p0 := O.2.1 i j
  -- forth
  have h1 : ∃ mv1 σ1 lab1, (∀ x nx, F_X1_improveAll_B14 N x nx t i mv j σ = F_X1_improveAll_J81 N x nx t mv1 i j (12 * i + j) σ1) ∧ LabX σ1 t n (wr (GW sd pr)) lab1 ∧ RInv false (Er (GE n sd c s.1)) (wr (GW sd pr)) src n lab0 lab1 (PrH sd i j j i) mv1 ∧ (∀ a z, a ≠ t + 6 → a ≠ t + 7 → σ1.1 a z = σ.1 a z) := by
    by_cases e : Er (GE n sd c s.1) j i
    · have e' := GE_iff.mp e
      obtain ⟨q, σ1, lab1, r1, r2, r3, r4⟩ := k_half (N := N) (Pr' := PrH sd i j j i) hw hn hπ hnE hf0 L R hj hi (fun a b h => h) e
      refine ⟨jor mv q, σ1, lab1, fun x nx => ?_, r2, r3, r4⟩
      unfold F_X1_improveAll_B14
      have e3 : wr (GW sd pr) j i = pr i j := GW_L hs
      rw [e3] at r1
      rw [inb_in (by omega), (X.2.1 i hi).1, if_neg (by omega), X.1, if_neg (by omega), inb_in (by omega), (X.2.1 j hj).1, if_neg (by omega), ix, inb_in (by omega), (X.2.2.1 i j hi hj).1 hs (by omega), X.2.2.2 i j (by omega) (by omega), if_neg (by omega), (X.2.2.1 i j hi hj).2, r1]
      rfl
    · refine ⟨mv, σ, lab, fun x nx => ?_, L, R.skip (fun a b h => h) e, fun _ _ _ _ => rfl⟩
      have e' : ¬ (i < n ∧ j < n ∧ ((sd i < 0 ∧ 0 < sd j ∧ s.1 i j < c i j) ∨ (0 < sd i ∧ sd j < 0 ∧ 0 < s.1 j i))) := e
      unfold F_X1_improveAll_B14
      rw [inb_in (by omega), (X.2.1 i hi).1, if_neg (by omega), X.1, if_neg (by omega), inb_in (by omega), (X.2.1 j hj).1, ix]
      by_cases g : sd j ≤ 0
      · rw [if_pos g]
      · rw [if_neg g, inb_in (by omega), (X.2.2.1 i j hi hj).1 hs (by omega), X.2.2.2 i j (by omega) (by omega), if_pos (by omega)]
  obtain ⟨mv1, σ1, lab1, a1, a2, a3, a4⟩ := h1
  have X1 : FlowX σ1 t n sd c pr s := X.cg (fun a z h => a4 a z (by omega) (by omega))
  -- back
  have h2 : ∃ mv2 σ2 lab2, (∀ x nx, F_X1_improveAll_J81 N x nx t mv1 i j (12 * i + j) σ1 = nx (mv2, (j : Int) + 1, σ2)) ∧ LabX σ2 t n (wr (GW sd pr)) lab2 ∧ RInv false (Er (GE n sd c s.1)) (wr (GW sd pr)) src n lab0 lab2 (PrK sd i (j + 1)) mv2 ∧ (∀ a z, a ≠ t + 6 → a ≠ t + 7 → σ2.1 a z = σ1.1 a z) := by
    by_cases e : Er (GE n sd c s.1) i j
    · have e' := GE_iff.mp e
      obtain ⟨q, σ2, lab2, r1, r2, r3, r4⟩ := k_half (N := N) (Pr' := PrK sd i (j + 1)) hw hn hπ hnE hf0 a2 a3 hi hj (fun a b h => PrH_full h) e
      refine ⟨jor mv1 q, σ2, lab2, fun x nx => ?_, r2, r3, r4⟩
      unfold F_X1_improveAll_J81 F_X1_improveAll_J117
      have e3 : wr (GW sd pr) i j = - pr i j := GW_P (by omega)
      rw [e3] at r1
      rw [inb_in (by omega), (X1.2.1 j hj).1, if_neg (by omega), inb_in (by omega), X1.2.2.2 i j (by omega) (by omega), if_neg (by omega), (X1.2.2.1 i j hi hj).2, jneg_eq ⟨by omega, by omega⟩, r1, ja_1 (by omega) (by omega)]
      rfl
    · refine ⟨mv1, σ1, lab1, fun x nx => ?_, a2, a3.skip (fun a b h => PrH_full h) e, fun _ _ _ _ => rfl⟩
      have e' : ¬ (j < n ∧ i < n ∧ ((sd j < 0 ∧ 0 < sd i ∧ s.1 j i < c j i) ∨ (0 < sd j ∧ sd i < 0 ∧ 0 < s.1 i j))) := e
      unfold F_X1_improveAll_J81 F_X1_improveAll_J117
      rw [inb_in (by omega), (X1.2.1 j hj).1, ja_1 (by omega) (by omega)]
      by_cases g : sd j ≤ 0
      · rw [if_pos g]
      · rw [if_neg g, inb_in (by omega), X1.2.2.2 i j (by omega) (by omega), if_pos (by omega)]
  obtain ⟨mv2, σ2, lab2, b1, b2, b3, b4⟩ := h2
  exact ⟨mv2, σ2, lab2, fun x nx => (a1 x nx).trans (b1 x nx), b2, b3, fun a z x y => (b4 a z x y).trans (a4 a z x y)⟩
theorem k_round (hN : BigN N) (O : FOK n sd c pr) (S : SOK n sd c pr s) {π : Nat → Int} (hπ : ∀ u v, Er (GE n sd c s.1) u v → 0 ≤ wr (GW sd pr) u v + π u - π v) (hf0 : FL false (Er (GE n sd c s.1)) (wr (GW sd pr)) src n lab) (X : FlowX σ t n sd c pr s) (L : LabX σ t n (wr (GW sd pr)) lab) {r : Nat} (hd : Dom false (Er (GE n sd c s.1)) (wr (GW sd pr)) src lab r) : ∃ mv σ' lab', F_X1_improveAll N t σ = some (mv, σ') ∧ LabX σ' t n (wr (GW sd pr)) lab' ∧ (∀ a z, a ≠ t + 6 → a ≠ t + 7 → σ'.1 a z = σ.1 a z) ∧ FL false (Er (GE n sd c s.1)) (wr (GW sd pr)) src n lab' ∧ Dom false (Er (GE n sd c s.1)) (wr (GW sd pr)) src lab' (r + 1) ∧ ((mv = 0 ∧ ∀ a b, Er (GE n sd c s.1) a b → lab' a ≠ [] → lab' b ≠ [] ∧ ¬ ahz false (wr (GW sd pr)) (lab' a ++ [b]) (lab' b)) ∨ (mv = 1 ∧ ¬ n ≤ r + 1)) := by
  have hn := O.1
  unfold F_X1_improveAll
  refine Exists.elim (loop_A (b := fun q nx => F_X1_improveAll_B4 N nx t q.1 q.2.1 q.2.2) (fin := fun q => some (q.1, q.2.2)) (N := N) (s0 := ((0 : Int), (0 : Int), σ)) (fun k q => q.2.1 = k ∧ (∀ a z, a ≠ t + 6 → a ≠ t + 7 → q.2.2.1 a z = σ.1 a z) ∧ ∃ lab', LabX q.2.2 t n (wr (GW sd pr)) lab' ∧ RInv false (Er (GE n sd c s.1)) (wr (GW sd pr)) src n lab lab' (PrK sd k 0) q.1) n (bigN hN) ⟨rfl, fun _ _ _ _ => rfl, lab, L, RInv.ini hf0 PrK_0⟩ (fun k q hk hI => ?_) (fun q hI nx => ?_)) (fun q hq => ?_)
  rotate_right
  · obtain ⟨⟨j1, j2, lab', j3, j4⟩, hx⟩ := hq
    obtain ⟨e1, e2, e3⟩ := j4.fin hf0 hd (fun a b h => by
      have h := GE_iff.mp h
      unfold PrK; omega)
    exact ⟨q.1, q.2.2, lab', hx, j3, j2, e1, e2, e3⟩
  · obtain ⟨mv, u, τ⟩ := q
    obtain ⟨rfl, i2, lab1, i3, i4⟩ := hI
    have X1 : FlowX τ t n sd c pr s := X.cg (fun a z h => i2 a z (by omega) (by omega))
    have e0 : ∀ nx, F_X1_improveAll_B4 N nx t mv (k : Int) τ = loopK (fun q nx14 => F_X1_improveAll_B14 N nx nx14 t k q.1 q.2.1 q.2.2) N (mv, 0, τ) := fun nx => by
      unfold F_X1_improveAll_B4
      rw [X1.1, if_neg (by omega)]
    by_cases hs : sd k < 0
    · refine Exists.elim (loop_X (b := fun x q nx14 => F_X1_improveAll_B14 N x nx14 t k q.1 q.2.1 q.2.2) (fin := fun x q => x (q.1, (k : Int) + 1, q.2.2)) (N := N) (s0 := (mv, (0 : Int), τ)) (fun m q => q.2.1 = m ∧ (∀ a z, a ≠ t + 6 → a ≠ t + 7 → q.2.2.1 a z = σ.1 a z) ∧ ∃ lab', LabX q.2.2 t n (wr (GW sd pr)) lab' ∧ RInv false (Er (GE n sd c s.1)) (wr (GW sd pr)) src n lab lab' (PrK sd k m) q.1) n (bigN hN) ⟨rfl, i2, lab1, i3, i4⟩ (fun m q hm hI => ?_) (fun q hI x nx => ?_)) (fun q hq => ?_)
      rotate_right
      · obtain ⟨⟨j1, j2, lab', j3, j4⟩, hx⟩ := hq
        refine ⟨(q.1, (k : Int) + 1, q.2.2), ⟨by show (k : Int) + 1 = _; omega, j2, lab', j3, j4.1, j4.2.1, fun a b p e l => ?_, j4.2.2.2⟩, fun nx => (e0 nx).trans (hx nx)⟩
        exact j4.2.2.1 a b (PrK_next (Nat.le_refl n) e.2.1 e.1 p) e l
      · obtain ⟨mv', u, τ'⟩ := q
        obtain ⟨rfl, l2, lab2, l3, l4⟩ := hI
        obtain ⟨mv2, σ2, lab3, q1, q2, q3, q4⟩ := k_pair (N := N) O S hπ hf0 (X.cg (fun a z h => l2 a z (by omega) (by omega))) l3 l4 hk hm hs
        exact ⟨(mv2, (m : Int) + 1, σ2), ⟨by show (m : Int) + 1 = _; omega, fun a z x y => (q4 a z x y).trans (l2 a z x y), lab3, q2, q3⟩, q1⟩
      · obtain ⟨mv', u, τ'⟩ := q
        obtain ⟨rfl, l2, -⟩ := hI
        have X2 : FlowX τ' t n sd c pr s := X.cg (fun a z h => l2 a z (by omega) (by omega))
        show F_X1_improveAll_B14 N x nx t k mv' (n : Int) τ' = _
        unfold F_X1_improveAll_B14 F_X1_improveAll_J123
        rw [inb_in (by omega), (X2.2.1 k hk).1, if_neg (by omega), X2.1, if_pos (Int.le_refl _), ja_1 (by omega) (by omega)]
    · refine ⟨(mv, (k : Int) + 1, τ), ⟨by show (k : Int) + 1 = _; omega, i2, lab1, i3, i4.1, i4.2.1, fun a b p e l => i4.2.2.1 a b (PrK_row hs p) e l, i4.2.2.2⟩, fun nx => (e0 nx).trans ?_⟩
      refine loopK_for (s := fun _ => (mv, (0 : Int), τ)) 0 (bigN hN) (fun j hj => by omega) (fun nx' => ?_)
      show F_X1_improveAll_B14 N nx nx' t k mv 0 τ = _
      unfold F_X1_improveAll_B14 F_X1_improveAll_J123
      rw [inb_in (by omega), (X1.2.1 k hk).1, if_pos (by omega), ja_1 (by omega) (by omega)]
  · obtain ⟨mv, u, τ⟩ := q
    obtain ⟨rfl, i2, -⟩ := hI
    have X1 : FlowX τ t n sd c pr s := X.cg (fun a z h => i2 a z (by omega) (by omega))
    show F_X1_improveAll_B4 N nx t mv (n : Int) τ = _
    unfold F_X1_improveAll_B4
    rw [X1.1, if_pos (Int.le_refl _)]
/-- where ways end -/
abbrev snkF (n : Nat) (sd : Nat → Int) (s : St) : Nat → Prop := fun v => v < n ∧ 0 < sd v ∧ 0 < s.2 v
theorem k_measure (hN : BigN N) (O : FOK n sd c pr) (S : SOK n sd c pr s) (X : FlowX σ t n sd c pr s) : ∃ σ' cst ln, F_X1_measure N t σ = some σ' ∧ (∀ a z, a ≠ t + 6 → a ≠ t + 7 → σ'.1 a z = σ.1 a z) ∧ Dist (GE n sd c s.1) (GW sd pr) (snkF n sd s) cst ln ∧ (∀ v : Nat, v < n → σ'.1 (t + 6) v = cst v ∧ σ'.1 (t + 7) v = (ln v : Nat)) ∧ (∀ v, ln v ≤ n) ∧ ∀ v, -2376 ≤ cst v ∧ cst v ≤ 2376 := by
  have hn := O.1
  obtain ⟨π, hπ⟩ := S.2.2
  have hπ' : ∀ u v, Er (GE n sd c s.1) u v → 0 ≤ wr (GW sd pr) u v + (fun x => - π x) u - (fun x => - π x) v := fun u v h => by
    have := hπ v u h
    show 0 ≤ GW sd pr v u + (- π u) - (- π v)
    omega
  have st0 : FL false (Er (GE n sd c s.1)) (wr (GW sd pr)) (snkF n sd s) n (fun v => @ite _ (snkF n sd s v) (Classical.propDecidable _) [v] []) := FL.start (fun v h => h.1) (fun v => by
    by_cases h : snkF n sd s v
    · exact Or.inl ⟨h, if_pos h⟩
    · exact Or.inr ⟨h, if_neg h⟩)
  have d0 := Dom.zero st0
  -- all begin
  have A : ∃ σ1, F_X1_measure N t σ = F_X1_measure_J52 N t σ1 ∧ (∀ a z, a ≠ t + 6 → a ≠ t + 7 → σ1.1 a z = σ.1 a z) ∧ LabX σ1 t n (wr (GW sd pr)) (fun v => @ite _ (snkF n sd s v) (Classical.propDecidable _) [v] []) := by
    unfold F_X1_measure
    refine Exists.elim (loop_A (b := fun q nx => F_X1_measure_B2 N nx t q.1 q.2) (fin := fun q => F_X1_measure_J52 N t q.2) (N := N) (s0 := ((0 : Int), σ)) (fun k q => q.1 = k ∧ (∀ a z, a ≠ t + 6 → a ≠ t + 7 → q.2.1 a z = σ.1 a z) ∧ ∀ v : Nat, v < k → q.2.1 (t + 6) v = 0 ∧ q.2.1 (t + 7) v = if 0 < sd v ∧ 0 < s.2 v then 1 else 0) n (bigN hN) ⟨rfl, fun _ _ _ _ => rfl, fun v h => by omega⟩ (fun k q hk hI => ?_) (fun q hI nx => ?_)) (fun q hq => ?_)
    rotate_right
    · obtain ⟨⟨j1, j2, j3⟩, hx⟩ := hq
      refine ⟨q.2, hx, j2, fun v hv => ?_⟩
      by_cases h : snkF n sd s v
      · have e : (fun v => @ite _ (snkF n sd s v) (Classical.propDecidable _) [v] ([] : List Nat)) v = [v] := if_pos h
        rw [e, (j3 v hv).1, (j3 v hv).2, if_pos h.2]; exact ⟨rfl, rfl⟩
      · have e : (fun v => @ite _ (snkF n sd s v) (Classical.propDecidable _) [v] ([] : List Nat)) v = [] := if_neg h
        rw [e, (j3 v hv).1, (j3 v hv).2, if_neg (fun z => h ⟨hv, z⟩)]; exact ⟨rfl, rfl⟩
    · obtain ⟨u, τ⟩ := q
      obtain ⟨rfl, i2, i3⟩ := hI
      have X1 : FlowX τ t n sd c pr s := X.cg (fun a z h => i2 a z (by omega) (by omega))
      refine ⟨((k : Int) + 1, upI (upI τ (t + 6) k 0) (t + 7) k (if 0 < sd k ∧ 0 < s.2 k then 1 else 0)), ⟨by show (k : Int) + 1 = _; omega, fun a z h1 h2 => ?_, fun v hv => ?_⟩, fun nx => ?_⟩
      · show (upI (upI τ _ _ _) _ _ _).1 a z = _
        rw [up_pl h2, up_pl h1]; exact i2 a z h1 h2
      · show (upI (upI τ _ _ _) _ _ _).1 _ _ = _ ∧ (upI (upI τ _ _ _) _ _ _).1 _ _ = _
        by_cases e : v = k
        · subst e
          rw [up_pl (by omega), up_same, up_same]; exact ⟨rfl, rfl⟩
        · rw [up_pl (by omega), up_ix (by omega), up_ix (by omega), up_pl (by omega)]; exact i3 v (by omega)
      · show F_X1_measure_B2 N nx t (k : Int) τ = _
        unfold F_X1_measure_B2 F_X1_measure_J44 F_X1_measure_J45
        rw [X1.1, if_neg (by omega), inb_in (by omega), up_pl (by omega), up_pl (by omega), (X1.2.1 k hk).1, (X1.2.1 k hk).2, ja_1 (by omega) (by omega), inb_in (by omega), inb_in (by omega)]
        by_cases h1 : sd k ≤ 0
        · rw [if_pos h1, if_neg (by omega)]
        · rw [if_neg h1]
          by_cases h2 : s.2 k ≤ 0
          · rw [if_pos h2, if_neg (by omega)]
          · rw [if_neg h2, if_pos (by omega)]
    · obtain ⟨u, τ⟩ := q
      obtain ⟨rfl, i2, -⟩ := hI
      have X1 : FlowX τ t n sd c pr s := X.cg (fun a z h => i2 a z (by omega) (by omega))
      show F_X1_measure_B2 N nx t (n : Int) τ = _
      unfold F_X1_measure_B2
      rw [X1.1, if_pos (Int.le_refl _)]
  obtain ⟨σ1, A1, A2, A3⟩ := A
  -- the rounds
  have B : ∃ σ', (∃ lab, (∀ a z, a ≠ t + 6 → a ≠ t + 7 → σ'.1 a z = σ1.1 a z) ∧ LabX σ' t n (wr (GW sd pr)) lab ∧ FL false (Er (GE n sd c s.1)) (wr (GW sd pr)) (snkF n sd s) n lab ∧ ∀ a b, Er (GE n sd c s.1) a b → lab a ≠ [] → lab b ≠ [] ∧ ¬ ahz false (wr (GW sd pr)) (lab a ++ [b]) (lab b)) ∧ ∀ _ : Unit, F_X1_measure_J52 N t σ1 = some σ' := by
    unfold F_X1_measure_J52
    refine loop_E (X := Unit) (b := fun _ q nx => F_X1_measure_B56 N nx t q.1 q.2.1 q.2.2) (fin := fun _ r => some r) (fun k q => q.2.1 = k ∧ (∀ a z, a ≠ t + 6 → a ≠ t + 7 → q.2.2.1 a z = σ1.1 a z) ∧ ∃ lab, LabX q.2.2 t n (wr (GW sd pr)) lab ∧ FL false (Er (GE n sd c s.1)) (wr (GW sd pr)) (snkF n sd s) n lab ∧ Dom false (Er (GE n sd c s.1)) (wr (GW sd pr)) (snkF n sd s) lab k ∧ ((q.1 = 0 ∧ ∀ a b, Er (GE n sd c s.1) a b → lab a ≠ [] → lab b ≠ [] ∧ ¬ ahz false (wr (GW sd pr)) (lab a ++ [b]) (lab b)) ∨ (q.1 = 1 ∧ (k = 0 ∨ k < n)))) _ (n + 1) (bigN hN) ⟨rfl, fun _ _ _ _ => rfl, _, A3, st0, d0, Or.inr ⟨rfl, Or.inl rfl⟩⟩ (fun k q hk hI => ?_)
    obtain ⟨mv, u, τ⟩ := q
    obtain ⟨rfl, i2, lab, i3, i4, i5, i6⟩ := hI
    have X1 : FlowX τ t n sd c pr s := X.cg (fun a z h => (i2 a z (by omega) (by omega)).trans (A2 a z (by omega) (by omega)))
    rcases i6 with ⟨rfl, i6⟩ | ⟨rfl, i6⟩
    · refine Or.inr ⟨τ, ⟨lab, i2, i3, i4, i6⟩, fun x nx => ?_⟩
      show F_X1_measure_B56 N nx t 0 (k : Int) τ = _
      unfold F_X1_measure_B56
      rw [if_pos rfl]
      split <;> rfl
    · obtain ⟨mv2, σ2, lab2, q1, q2, q3, q4, q5, q6⟩ := k_round (N := N) hN O S hπ' i4 X1 i3 i5
      refine Or.inl ⟨by omega, (mv2, (k : Int) + 1, σ2), ⟨by show (k : Int) + 1 = _; omega, fun a z x y => (q3 a z x y).trans (i2 a z x y), lab2, q2, q4, q5, ?_⟩, fun x nx => ?_⟩
      · rcases q6 with q6 | ⟨q6, q7⟩
        · exact Or.inl q6
        · exact Or.inr ⟨q6, Or.inr (by omega)⟩
      · show F_X1_measure_B56 N nx t 1 (k : Int) τ = _
        unfold F_X1_measure_B56
        rw [X1.1, if_neg (by omega), if_neg (by decide), q1, ja_1 (by omega) (by omega)]
        rfl
  obtain ⟨σ', ⟨lab, B1, B2, B3, B4⟩, hB⟩ := B
  refine ⟨σ', fun v => wc (wr (GW sd pr)) (lab v), fun v => (lab v).length, A1.trans (hB ()), fun a z x y => (B1 a z x y).trans (A2 a z x y), dist_of_FL hπ (fun u v h => h.1) B3 (fun a b h l => B4 a b h l), B2, fun v => B3.len v, fun v => ?_⟩
  have l := B3.len v
  have b := wc_bd (w := wr (GW sd pr)) (fun u v => GW_bd O v u) (lab v)
  have hn := O.1
  show -2376 ≤ wc (wr (GW sd pr)) (lab v) ∧ wc (wr (GW sd pr)) (lab v) ≤ 2376
  omega
end MEAS2
