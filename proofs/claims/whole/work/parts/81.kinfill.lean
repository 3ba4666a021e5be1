/-! THE CLASS'S KIN: its row of starts, its bits, days together -/
theorem LowZ.cg {σ σ' : Sto} (Z : LowZ σ) (e1 : ∀ j, σ'.1 47 j = σ.1 47 j) (e2 : ∀ j, σ'.2 49 j = σ.2 49 j) : LowZ σ' := fun a b x y z => by rw [e1, e2]; exact Z a b x y z
theorem RulR.cg {σ σ' : Sto} {P : Int → Int → Int} {g : Int} {m : Nat} (R : RulR σ P g m) (e1 : ∀ j, σ'.1 50 j = σ.1 50 j) : RulR σ' P g m := fun a x y => by rw [e1]; exact R a x y
theorem jmax_eq {a b : Int} : jmax a b = if b < a then a else b := by
  unfold jmax; split <;> split <;> omega
def lst (f : Int → Bool) : Nat → Int
  | 0 => -1
  | n + 1 => if f n = true then n else lst f n
theorem lst_R {f : Int → Bool} : ∀ {n : Nat}, lst f n = -1 ∨ (0 ≤ lst f n ∧ lst f n < n) := by
  intro n
  induction n with
  | zero => exact Or.inl rfl
  | succ n ih =>
    show (if f n = true then (n : Int) else lst f n) = -1 ∨ (0 ≤ (if f n = true then (n : Int) else lst f n) ∧ (if f n = true then (n : Int) else lst f n) < _)
    split
    · exact Or.inr ⟨by omega, by omega⟩
    · rcases ih with h | h
      · exact Or.inl h
      · exact Or.inr ⟨by omega, by omega⟩
theorem loop_down {Rt : Type} {b : Int → (Int → Option Rt) → Option Rt} {f : Int → Bool} {fin : Int → Option Rt} (he : ∀ nx, b (-1) nx = fin (-1)) : ∀ {m N : Nat}, m < N → (∀ (k : Nat) nx, k < m → b (k : Int) nx = if f k = true then fin k else nx ((k : Int) - 1)) → loopK b N ((m : Int) - 1) = fin (lst f m) := by
  intro m
  induction m with
  | zero =>
    intro N hN _
    obtain ⟨n, rfl⟩ : ∃ i, N = i + 1 := ⟨N - 1, by omega⟩
    exact he _
  | succ m ih =>
    intro N hN hs
    obtain ⟨n, rfl⟩ : ∃ i, N = i + 1 := ⟨N - 1, by omega⟩
    show b (((m + 1 : Nat) : Int) - 1) (loopK b n) = fin (if f m = true then (m : Int) else lst f m)
    rw [show ((m + 1 : Nat) : Int) - 1 = (m : Int) by omega, hs m _ (by omega)]
    by_cases h : f m = true
    · rw [if_pos h, if_pos h]
    · rw [if_neg h, if_neg h]
      exact ih (by omega) (fun k nx hk => hs k nx (by omega))
section KIN2
variable {N : Nat} {D : Dk} {σ : Sto}
theorem k_fill2 (hN : BigN N) (V : Val D) {v b : Nat} (hb : b ≤ 32) (hv : 51 ≤ v) (g : Int) (B : BokR σ b D) (Z : LowZ σ) (h2 : σ.1 v 2 = nsD D) (hs : ∀ i : Nat, i < nsD D → σ.1 (v + 1) i = stD D i) : ∃ σ', F_X4_fill_J47 N v b g σ = some σ' ∧ KinR σ' v D g ∧ LowZ σ' := by
  have vz := V.sz
  have hn := nsD_is V
  have hn2 := hn.2.1
  unfold F_X4_fill_J47
  refine Exists.elim (loop_A (b := fun q nx => F_X4_fill_B50 N nx v b g q.1 q.2) (fin := fun s => some s.2) (N := N) (s0 := ((0 : Int), σ)) (fun k s => s.1 = k ∧ BokR s.2 b D ∧ LowZ s.2 ∧ s.2.1 v 2 = nsD D ∧ (∀ i : Nat, i < nsD D → s.2.1 (v + 1) i = stD D i) ∧ ∀ i : Nat, i < k → ∀ m : Nat, m < dm D → s.2.1 (v + 2) (8 * i + m) = rlb (pct D (stD D i)) g (dm D) m) (nsD D) (bigN hN) ⟨rfl, B, Z, h2, hs, fun i h => by omega⟩ (fun k s hk hI => ?_) (fun s hI nx => ?_)) (fun s hs => ?_)
  rotate_right
  · obtain ⟨⟨j1, j2, j3, j4, j5, j6⟩, hx⟩ := hs
    exact ⟨s.2, hx, ⟨j4, j5, j6⟩, j3⟩
  · obtain ⟨u, τ⟩ := s
    obtain ⟨rfl, i2, i3, i4, i5, i6⟩ := hI
    obtain ⟨τ1, q1, q2, q3⟩ := k_load hN V hb (stD D k) i2 i3
    have f1 := fr_X10_load q1
    obtain ⟨τ2, r1, r2, r3, r4⟩ := k_judge hN V q2 g
    have c : ∀ a j, a ≠ 46 → a ≠ 47 → a ≠ 48 → a ≠ 49 → a ≠ 50 → τ2.1 a j = τ.1 a j := fun a j x1 x2 x3 x4 x5 => (r3 a j x5).trans (f1.1 a j (fun z => by unfold Wr_X10_load at z; omega))
    refine Exists.elim (loop_X (b := fun x q nx => F_X4_fill_B79 N x nx v b g (k : Int) q.1 q.2) (fin := fun x s => x ((k : Int) + 1, s.2)) (N := N) (s0 := ((0 : Int), τ2)) (fun i s => s.1 = i ∧ (∀ a j, a ≠ v + 2 → s.2.1 a j = τ2.1 a j) ∧ s.2.2 = τ2.2 ∧ (∀ j : Int, j < 8 * k → s.2.1 (v + 2) j = τ2.1 (v + 2) j) ∧ ∀ m : Nat, m < i → s.2.1 (v + 2) (8 * k + m) = rlb (pct D (stD D k)) g (dm D) m) (dm D) (bigN hN) ⟨rfl, fun _ _ _ => rfl, rfl, fun _ _ => rfl, fun m h => by omega⟩ (fun i s hi hI => ?_) (fun s hI x nx => ?_)) (fun s hs => ?_)
    rotate_right
    · obtain ⟨⟨l1, l2, l3, l4, l5⟩, hx⟩ := hs
      refine ⟨((k : Int) + 1, s.2), ⟨by show (k : Int) + 1 = _; omega, i2.cg (fun a j x y => (l2 a j (by omega)).trans (c a j (by omega) (by omega) (by omega) (by omega) (by omega))), q3.cg (fun j => ?_) (fun j => ?_), ?_, fun i hi => ?_, fun i hi m hm => ?_⟩, fun nx => ?_⟩
      · exact (l2 47 j (by omega)).trans (r3 47 j (by decide))
      · show s.2.2 49 j = _
        rw [l3, r2]
      · exact ((l2 v 2 (by omega)).trans (c v 2 (by omega) (by omega) (by omega) (by omega) (by omega))).trans i4
      · exact ((l2 (v + 1) i (by omega)).trans (c (v + 1) i (by omega) (by omega) (by omega) (by omega) (by omega))).trans (i5 i hi)
      · by_cases e : i = k
        · subst e; exact l5 m hm
        · exact ((l4 _ (by omega)).trans (c (v + 2) _ (by omega) (by omega) (by omega) (by omega) (by omega))).trans (i6 i (by omega) m hm)
      · show F_X4_fill_B50 N nx v b g (k : Int) τ = _
        unfold F_X4_fill_B50
        rw [i4, if_neg (by omega), inb_in (by omega), i5 k hk, q1]
        show (F_X10_judge N g τ1).bind _ = _
        rw [r1]
        exact hx nx
    · obtain ⟨u, τ'⟩ := s
      obtain ⟨rfl, l2, l3, l4, l5⟩ := hI
      have ix : ja (jm (k : Int) 8) (i : Int) = 8 * k + i := ix8 (by omega) (by omega) (by omega) (by omega)
      refine ⟨((i : Int) + 1, upI τ' (v + 2) (8 * k + i) (rlb (pct D (stD D k)) g (dm D) i)), ⟨by show (i : Int) + 1 = _; omega, fun a j h => ?_, l3, fun j h => ?_, fun m hm => ?_⟩, fun x nx => ?_⟩
      · show (upI τ' _ _ _).1 a j = _
        rw [up_pl h]; exact l2 a j h
      · show (upI τ' _ _ _).1 _ j = _
        rw [up_ix (by omega)]; exact l4 j h
      · show (upI τ' _ _ _).1 _ _ = _
        by_cases e : m = i
        · subst e; rw [up_same]
        · rw [up_ix (by omega)]; exact l5 m (by omega)
      · show F_X4_fill_B79 N x nx v b g k i τ' = _
        unfold F_X4_fill_B79
        rw [(l2 b 8 (by omega)).trans ((c b 8 (by omega) (by omega) (by omega) (by omega) (by omega)).trans i2.1.1), if_neg (by omega), k_relatives hN vz.1 (r4.cg (fun j => l2 50 j (by omega))) hi, ix, ja_1 (by omega) (by omega)]
        rw [Option.bind_some, inb_in (by omega)]
    · obtain ⟨u, τ'⟩ := s
      obtain ⟨rfl, l2, -⟩ := hI
      show F_X4_fill_B79 N x nx v b g k (dm D : Int) τ' = _
      unfold F_X4_fill_B79 F_X4_fill_J113
      rw [(l2 b 8 (by omega)).trans ((c b 8 (by omega) (by omega) (by omega) (by omega) (by omega)).trans i2.1.1), if_pos (Int.le_refl _), ja_1 (by omega) (by omega)]
  · obtain ⟨u, τ⟩ := s
    obtain ⟨rfl, i2, i3, i4, -⟩ := hI
    show F_X4_fill_B50 N nx v b g (nsD D : Int) τ = _
    unfold F_X4_fill_B50
    rw [i4, if_pos (Int.le_refl _)]
theorem k_kin (hN : BigN N) (V : Val D) {v b : Nat} (hb : b ≤ 32) (hv : 51 ≤ v) (g : Int) (B : BokR σ b D) (Z : LowZ σ) : ∃ σ', F_X4_fill N v b g σ = some σ' ∧ KinR σ' v D g ∧ LowZ σ' := by
  have vz := V.sz
  unfold F_X4_fill
  rw [inb_in (by omega)]
  refine Exists.elim (loop_A (b := fun q nx => F_X4_fill_B15 N nx v b g q.1 q.2) (fin := fun s => F_X4_fill_J47 N v b g s.2) (N := N) (s0 := ((0 : Int), upI (upI σ (v + 1) 0 0) v 2 1)) (fun k s => s.1 = k ∧ BokR s.2 b D ∧ LowZ s.2 ∧ ∃ n, StR s.2 v n ∧ n ≤ k + 1 ∧ ∀ x : Int, (∃ i : Nat, i < n ∧ s.2.1 (v + 1) i = x) ↔ (x = 0 ∨ ∃ j : Nat, j < k ∧ x = D.2 11 j)) (dn D) (bigN hN) ⟨rfl, B.cg (fun a j x y => ?_), Z.cg (fun j => ?_) (fun j => rfl), 1, ⟨up_same, by omega, ?_, fun i h => by omega⟩, by omega, fun x => ⟨?_, ?_⟩⟩ (fun k s hk hI => ?_) (fun s hI nx => ?_)) (fun s hs => ?_)
  rotate_right
  · obtain ⟨⟨j1, j2, j3, n, j4, j5, j6⟩, hx⟩ := hs
    have w := fun (j : Nat) (hj : j < dn D) => (V.own (k := j) (by omega) (by omega)).2.2
    have inc : ∀ i : Nat, i + 1 < n → s.2.1 (v + 1) (i : Int) < s.2.1 (v + 1) ((i + 1 : Nat) : Int) := fun i h => by
      have := j4.2.2.2 i h
      rw [show ((i + 1 : Nat) : Int) = (i : Int) + 1 by omega]; exact this
    obtain ⟨s1, s2⟩ := st_of_row V (A := fun i => s.2.1 (v + 1) (i : Int)) (n := n) j4.2.1 j4.2.2.1 inc (fun i hi => by
      rcases (j6 (s.2.1 (v + 1) (i : Int))).mp ⟨i, hi, rfl⟩ with e | ⟨j, hj, e⟩
      · refine Or.inl ?_
        rcases Nat.eq_zero_or_pos i with z | z
        · exact z
        · have := j4.lt 0 i z hi
          have e0 : s.2.1 (v + 1) ((0 : Nat) : Int) = 0 := j4.2.2.1
          omega
      · exact Or.inr ⟨j, hj, e⟩) (fun k hk => (j6 _).mpr (Or.inr ⟨k, hk, rfl⟩))
    have en : n = nsD D := IsN.uniq ⟨j4.2.1, by omega, fun i hi => (s1 i hi).2, s2⟩ (nsD_is V)
    subst en
    obtain ⟨σ', q1, q2, q3⟩ := k_fill2 hN V hb hv g j2 j3 j4.1 (fun i hi => (s1 i hi).1)
    exact ⟨σ', hx.trans q1, q2, q3⟩
  · rw [up_pl (by omega), up_pl (by omega)]
  · show (upI (upI σ _ _ _) _ _ _).1 47 j = _
    rw [up_pl (by omega), up_pl (by omega)]
  · show (upI (upI σ _ _ _) _ _ _).1 (v + 1) 0 = 0
    rw [up_pl (by omega), up_same]
  · rintro ⟨i, hi, e⟩
    have z : i = 0 := by omega
    subst z
    have e : (upI (upI σ (v + 1) 0 0) v 2 1).1 (v + 1) 0 = x := e
    rw [up_pl (by omega), up_same] at e
    exact Or.inl e.symm
  · rintro (e | ⟨j, hj, -⟩)
    · refine ⟨0, by omega, ?_⟩
      show (upI (upI σ (v + 1) 0 0) v 2 1).1 (v + 1) 0 = x
      rw [up_pl (by omega), up_same, e]
    · omega
  · obtain ⟨u, τ⟩ := s
    obtain ⟨rfl, i2, i3, n, i4, i5, i6⟩ := hI
    have w := (V.own (k := k) (by omega) (by omega)).2.2
    have pk := i2.2.2.2
    have e4 : τ.1 (b + 8 + 4) (k : Int) = D.2 11 k := (pk.2 k (by omega) (by omega)).2.2.2
    obtain ⟨τ', n', q1, q2, q3, q4, q5⟩ := k_addStart hN (d := D.2 11 k) (by omega) (by omega) i4
    have fr := fr_X4_addStart q1
    refine ⟨((k : Int) + 1, τ'), ⟨by show (k : Int) + 1 = _; omega, i2.cg (fun a j x y => q5 a j (by omega) (by omega)), i3.cg (fun j => q5 47 j (by omega) (by omega)) (fun j => fr.2 49 j (fun z => by unfold Wr_X4_addStart at z; omega)), n', q2, by omega, fun x => ?_⟩, fun nx => ?_⟩
    · rw [q4 x, i6 x]
      constructor
      · rintro ((h | ⟨j, h, e⟩) | h)
        · exact Or.inl h
        · exact Or.inr ⟨j, by omega, e⟩
        · exact Or.inr ⟨k, by omega, h⟩
      · rintro (h | ⟨j, h, e⟩)
        · exact Or.inl (Or.inl h)
        · by_cases z : j = k
          · subst z; exact Or.inr e
          · exact Or.inl (Or.inr ⟨j, by omega, e⟩)
    · show F_X4_fill_B15 N nx v b g (k : Int) τ = _
      unfold F_X4_fill_B15
      rw [pk.1, if_neg (by omega), inb_in (by omega), e4, q1, ja_1 (by omega) (by omega)]
      rfl
  · obtain ⟨u, τ⟩ := s
    obtain ⟨rfl, i2, -⟩ := hI
    show F_X4_fill_B15 N nx v b g (dn D : Int) τ = _
    unfold F_X4_fill_B15
    rw [i2.2.2.2.1, if_pos (Int.le_refl _)]
theorem k_endOf (V : Val D) {v : Nat} {g : Int} (K : KinR σ v D g) {i : Nat} (hi : i < nsD D) : F_X4_endOf N v i σ = some (stD D (i + 1) - 1) := by
  have hn := nsD_is V
  have hn2 := hn.2.1
  unfold F_X4_endOf
  rw [ja_1 (by omega) (by omega), K.1]
  by_cases h : (nsD D : Int) ≤ (i : Int) + 1
  · have e : i + 1 = nsD D := by omega
    rw [if_pos h, e, hn.2.2.2]; rfl
  · have e := K.2.1 (i + 1) (by omega)
    have l := stD_le V (i + 1)
    rw [show ((i + 1 : Nat) : Int) = (i : Int) + 1 by omega] at e
    rw [if_neg h, inb_in (by omega), e, js_eq ⟨by omega, by omega⟩]
theorem tb_rlb {P : Int → Int → Int} {g : Int} {n : Nat} (hn : n ≤ 8) (a : Int) {b : Nat} (hb : b < n) : tb (rlb P g n a) b = relB P g n a b := by
  unfold rlb
  rw [tb_bset (by omega) (by omega), decide_eq_true hb, Bool.true_and]
theorem k_isTog (V : Val D) {v : Nat} {g : Int} (K : KinR σ v D g) {i : Nat} (hi : i < nsD D) {a b : Nat} (ha : a < dm D) (hb : b < dm D) : F_X4_isTogether N v i a b σ = some (if relB (pct D (stD D i)) g (dm D) a b = true then 1 else 0) := by
  have vz := V.sz
  have hn2 := (nsD_is V).2.1
  unfold F_X4_isTogether
  have ix : ja (jm (i : Int) 8) (a : Int) = 8 * i + a := ix8 (by omega) (by omega) (by omega) (by omega)
  rw [ix, inb_in (by omega), K.2.2 i hi a ha]
  by_cases h : relB (pct D (stD D i)) g (dm D) a b = true
  · rw [if_pos h, if_pos ((tb_test1 (by omega)).mpr (by rw [tb_rlb vz.1 _ hb]; exact h))]
  · rw [if_neg h, if_neg (fun z => h (by
      have z := (tb_test1 (by omega)).mp z
      rw [tb_rlb vz.1 _ hb] at z; exact z))]
theorem k_days (hN : BigN N) (V : Val D) {v : Nat} {g : Int} (K : KinR σ v D g) {a b : Nat} (ha : a < dm D) (hb : b < dm D) {fr to : Int} (f0 : 0 ≤ fr) (f1 : fr ≤ 999) (t0 : 0 ≤ to) (t1 : to ≤ 999) : F_X4_daysTogether N v a b fr to σ = some (dys D g a b fr to) := by
  have vz := V.sz
  have hn := nsD_is V
  have hn2 := hn.2.1
  unfold F_X4_daysTogether dys
  refine loop_sum (b := fun q nx6 => F_X4_daysTogether_B6 N nx6 v a b fr to q.1 q.2 σ) (fin := fun k => some k) 1000 (bigN hN) (by omega) (by omega) (by omega) (fun k hk => by have := dysF_bd V g a b fr to f0 k; omega) (fun k s nx hk hr hs => ?_) (fun s nx => ?_)
  · show F_X4_daysTogether_B6 N nx v a b fr to s (k : Int) σ = _
    unfold F_X4_daysTogether_B6 F_X4_daysTogether_J71
    have l1 := stD_le V k
    have l2 := stD_le V (k + 1)
    have l3 := stD_inc V (hn.2.2.1 k hk)
    rw [K.1, if_neg (by omega), inb_in (by omega), k_endOf V K hk, K.2.1 k hk, k_isTog V K hk ha hb, jmax_eq, ja_1 (k := (k : Int)) (by omega) (by omega)]
    simp only [Option.bind_some, jmin_eq]
    show (if (if to < stD D (k + 1) - 1 then to else stD D (k + 1) - 1) < (if stD D k < fr then fr else stD D k) then _ else (if (if relB (pct D (stD D k)) g (dm D) a b = true then (1 : Int) else 0) = 0 then _ else _)) = _
    unfold dysF at hr ⊢
    rw [Int.toNat_natCast] at hr ⊢
    unfold ovl at hr ⊢
    have em : (if to < stD D (k + 1) - 1 then to else stD D (k + 1) - 1) = (if stD D (k + 1) - 1 < to then stD D (k + 1) - 1 else to) := by split <;> split <;> omega
    rw [em]
    clear em
    have blo : 0 ≤ (if stD D k < fr then fr else stD D k) ∧ (if stD D k < fr then fr else stD D k) ≤ 1000 := by split <;> omega
    have bhi : -1 ≤ (if stD D (k + 1) - 1 < to then stD D (k + 1) - 1 else to) ∧ (if stD D (k + 1) - 1 < to then stD D (k + 1) - 1 else to) ≤ 1000 := by split <;> omega
    generalize (if stD D k < fr then fr else stD D k) = lo at *
    generalize (if stD D (k + 1) - 1 < to then stD D (k + 1) - 1 else to) = hi at *
    by_cases c : relB (pct D (stD D k)) g (dm D) a b = true
    · rw [if_pos c] at hr
      rw [if_pos c, if_pos c]
      by_cases q : lo ≤ hi
      · rw [if_pos q] at hr ⊢
        rw [if_neg (by omega : ¬ hi < lo), if_neg (by decide : ¬ (1 : Int) = 0), js_eq ⟨by omega, by omega⟩, ja_eq (a := _ - _) (b := 1) ⟨by omega, by omega⟩, ja_eq hr]
      · rw [if_neg q, if_pos (by omega : hi < lo), Int.add_zero]
    · rw [if_neg c, if_neg c, if_pos (rfl : (0 : Int) = 0), Int.add_zero]
      split <;> rfl
  · show F_X4_daysTogether_B6 N nx v a b fr to s (nsD D : Int) σ = _
    unfold F_X4_daysTogether_B6
    rw [K.1, if_pos (Int.le_refl _)]
/-- the first, the last DAY on which two are RELATED -/
def dyA (D : Dk) (g a b : Int) : Int := if fnd (fun i => relB (pct D (stD D i.toNat)) g (dm D) a b) (nsD D) 0 = -1 then -2 else stD D (fnd (fun i => relB (pct D (stD D i.toNat)) g (dm D) a b) (nsD D) 0).toNat
def dyZ (D : Dk) (g a b : Int) : Int := if lst (fun i => relB (pct D (stD D i.toNat)) g (dm D) a b) (nsD D) = -1 then -2 else stD D ((lst (fun i => relB (pct D (stD D i.toNat)) g (dm D) a b) (nsD D)).toNat + 1) - 1
theorem k_firstDay (hN : BigN N) (V : Val D) {v : Nat} {g : Int} (K : KinR σ v D g) {a b : Nat} (ha : a < dm D) (hb : b < dm D) : F_X4_firstDay N v a b σ = some (dyA D g a b) := by
  have vz := V.sz
  have hn2 := (nsD_is V).2.1
  unfold F_X4_firstDay dyA
  refine (loop_find (b := fun q nx2 => F_X4_firstDay_B2 N nx2 v a b q σ) (f := fun i => relB (pct D (stD D i.toNat)) g (dm D) a b) (m := nsD D) (fin := fun k => if k = -1 then some (-2) else some (stD D k.toNat)) (bigN hN) (fun k nx hk => ?_) (fun nx => ?_)).trans (by split <;> rfl)
  · show F_X4_firstDay_B2 N nx v a b k σ = _
    unfold F_X4_firstDay_B2 F_X4_firstDay_J20
    rw [K.1, if_neg (by omega), k_isTog V K hk ha hb, ja_1 (by omega) (by omega), inb_in (by omega), K.2.1 k hk]
    show (if (if relB (pct D (stD D k)) g (dm D) a b = true then (1 : Int) else 0) = 0 then _ else _) = (if relB (pct D (stD D (k : Int).toNat)) g (dm D) a b = true then _ else _)
    rw [Int.toNat_natCast]
    by_cases c : relB (pct D (stD D k)) g (dm D) a b = true
    · rw [if_pos c, if_neg (by decide), if_pos c, if_neg (by omega)]
    · rw [if_neg c, if_pos rfl, if_neg c]
  · show F_X4_firstDay_B2 N nx v a b (nsD D : Int) σ = _
    unfold F_X4_firstDay_B2
    rw [K.1, if_pos (Int.le_refl _)]; rfl
theorem k_lastDay (hN : BigN N) (V : Val D) {v : Nat} {g : Int} (K : KinR σ v D g) {a b : Nat} (ha : a < dm D) (hb : b < dm D) : F_X4_lastDay N v a b σ = some (dyZ D g a b) := by
  have vz := V.sz
  have hn2 := (nsD_is V).2.1
  unfold F_X4_lastDay dyZ
  rw [K.1, js_eq ⟨by omega, by omega⟩]
  refine (loop_down (b := fun q nx2 => F_X4_lastDay_B7 N nx2 v a b q σ) (f := fun i => relB (pct D (stD D i.toNat)) g (dm D) a b) (fin := fun k => if k = -1 then some (-2) else some (stD D (k.toNat + 1) - 1)) (fun nx => ?_) (m := nsD D) (bigN hN) (fun k nx hk => ?_)).trans (by split <;> rfl)
  · show F_X4_lastDay_B7 N nx v a b (-1) σ = _
    unfold F_X4_lastDay_B7
    rw [if_pos (by decide)]; rfl
  · show F_X4_lastDay_B7 N nx v a b k σ = _
    unfold F_X4_lastDay_B7 F_X4_lastDay_J21
    rw [if_neg (by omega), k_isTog V K hk ha hb, js_eq ⟨by omega, by omega⟩, k_endOf V K hk]
    show (if (if relB (pct D (stD D k)) g (dm D) a b = true then (1 : Int) else 0) = 0 then _ else _) = (if relB (pct D (stD D (k : Int).toNat)) g (dm D) a b = true then _ else _)
    rw [Int.toNat_natCast]
    by_cases c : relB (pct D (stD D k)) g (dm D) a b = true
    · rw [if_pos c, if_neg (by decide), if_pos c, if_neg (by omega)]; rfl
    · rw [if_neg c, if_pos rfl, if_neg c]
end KIN2
