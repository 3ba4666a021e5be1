/-! THE REFERENCE: its stretches, days together -/
def StrM (σ : Sto) (D : Dk) (g : Int) : Prop := σ.1 94 30 = nsD D ∧ (∀ i : Nat, i ≤ nsD D → σ.1 103 i = stD D i) ∧ ∀ i : Nat, i < nsD D → ∀ m : Nat, m < dm D → σ.1 104 (8 * i + m) = rlb (pct D (stD D i)) g (dm D) m
theorem ModR.fr {σ σ' : Sto} {D : Dk} (M : ModR σ D) (V : Val D) (e : ∀ a j, (a = 94 ∧ (j = 11 ∨ j = 14 ∨ j = 24 ∨ j = 31 ∨ j = 32 ∨ j = 33)) ∨ a = 97 ∨ a = 98 ∨ a = 100 ∨ a = 101 → σ'.1 a j = σ.1 a j) : ModR σ' D := M.cg V (fun j h => e 94 j (Or.inl ⟨rfl, h⟩)) (fun j => e 97 j (by omega)) (fun j => e 98 j (by omega)) (fun j => e 100 j (by omega)) (fun j => e 101 j (by omega))
theorem StrM.cg {σ σ' : Sto} {D : Dk} {g : Int} (S : StrM σ D g) (e0 : σ'.1 94 30 = σ.1 94 30) (e1 : ∀ j, σ'.1 103 j = σ.1 103 j) (e2 : ∀ j, σ'.1 104 j = σ.1 104 j) : StrM σ' D g := ⟨by rw [e0]; exact S.1, fun i h => by rw [e1]; exact S.2.1 i h, fun i h m q => by rw [e2]; exact S.2.2 i h m q⟩
section MST
variable {N : Nat} {D : Dk} {σ : Sto}
/-- the next day on which something begins -/
theorem m_next (hN : BigN N) (M : ModR σ D) (V : Val D) (g day : Int) (nx7 : (Int × Sto) → Option Sto) : loopK (fun q nx123 => F_X12_laysStretches_B123 N nx7 nx123 g day q.1 q.2 σ) N (1000, 0) = nx7 (nxt D day, σ) := by
  have v := V.sz
  refine loopK_for (s := fun k => (nxtK D day k, (k : Int))) (dn D) (bigN hN) (fun k hk nx => ?_) (fun nx => ?_)
  · show F_X12_laysStretches_B123 N nx7 nx g day (nxtK D day k) (k : Int) σ = nx ((if day < D.2 11 k ∧ D.2 11 k < nxtK D day k then D.2 11 k else nxtK D day k), ((k + 1 : Nat) : Int))
    unfold F_X12_laysStretches_B123 F_X12_laysStretches_J164
    rw [m_of103 M, (m_ofo M V (k := k) (by omega) (by omega)).2.2.2, ja_1 (by omega) (by omega), show ((k + 1 : Nat) : Int) = (k : Int) + 1 by omega]
    show (if (dn D : Int) ≤ k then _ else (if D.2 11 k ≤ day then _ else _)) = _
    rw [if_neg (by omega)]
    by_cases h1 : D.2 11 k ≤ day
    · rw [if_pos h1, if_neg (by omega)]
    · rw [if_neg h1]
      by_cases h2 : nxtK D day k ≤ D.2 11 k
      · rw [if_pos h2, if_neg (by omega)]
      · rw [if_neg h2, if_pos (by omega)]
  · show F_X12_laysStretches_B123 N nx7 nx g day (nxtK D day (dn D)) (dn D : Int) σ = _
    unfold F_X12_laysStretches_B123 F_X12_laysStretches_J170
    rw [m_of103 M]
    show (if (dn D : Int) ≤ (dn D : Int) then _ else _) = _
    rw [if_pos (Int.le_refl _)]; rfl
/-- one member's bits -/
theorem m_bits (hN : BigN N) (M : ModR σ D) (V : Val D) {day : Int} (S : ShrM σ D day) (g : Int) {a : Nat} (ha : a < dm D) (nx7 : (Int × Sto) → Option Sto) (nx31 : (Int × Sto) → Option Sto) : loopK (fun q nx45 => F_X12_laysStretches_B45 N nx7 nx31 nx45 g day a q.1 q.2 σ) N (0, 0) = F_X12_laysStretches_J84 N nx7 nx31 g day a (rlb (pct D day) g (dm D) a) σ := by
  have v := V.sz
  refine loop_bits (c := fun i => relB (pct D day) g (dm D) a i) (fin := fun u => F_X12_laysStretches_J84 N nx7 nx31 g day a u σ) (bigN hN) (fun k u nx hk hu => ?_) (fun u nx => ?_)
  · show F_X12_laysStretches_B45 N nx7 nx31 nx g day a u (k : Int) σ = _
    unfold F_X12_laysStretches_B45 F_X12_laysStretches_J75
    rw [M.1.1.1, if_neg (by omega), m_areRelated hN M V S g (by omega) (by omega) (by omega) (by omega), ja_1 (by omega) (by omega), jor_0 hu]
    show (if (if relB (pct D day) g (dm D) a k = true then (1 : Int) else 0) = 0 then _ else _) = _
    by_cases c : relB (pct D day) g (dm D) a k = true
    · rw [if_pos c, if_neg (by decide), if_pos c]
    · rw [if_neg c, if_pos rfl, if_neg c]
  · show F_X12_laysStretches_B45 N nx7 nx31 nx g day a u (dm D : Int) σ = _
    unfold F_X12_laysStretches_B45
    rw [M.1.1.1, if_pos (Int.le_refl _)]
theorem m_stretches (hN : BigN N) (M : ModR σ D) (V : Val D) (g : Int) : ∃ σ', F_X12_laysStretches N g σ = some σ' ∧ StrM σ' D g := by
  have v := V.sz
  have hn := nsD_is V
  have hn2 := hn.2.1
  unfold F_X12_laysStretches
  refine Exists.elim (loop_A (b := fun q nx => F_X12_laysStretches_B7 N nx g q.1 q.2) (fin := fun s => F_X12_laysStretches_J175 N s.2) (N := N) (s0 := ((0 : Int), upI σ 94 30 0)) (fun k s => s.1 = stD D k ∧ s.2.1 94 30 = k ∧ ModR s.2 D ∧ (∀ i : Nat, i < k → s.2.1 103 i = stD D i) ∧ ∀ i : Nat, i < k → ∀ m : Nat, m < dm D → s.2.1 104 (8 * i + m) = rlb (pct D (stD D i)) g (dm D) m) (nsD D) (bigN hN) ⟨rfl, up_same, M.fr V (fun a j h => upI_ne (by omega)), fun i h => by omega, fun i h => by omega⟩ (fun k s hk hI => ?_) (fun s hI nx => ?_)) (fun s hs => ?_)
  rotate_right
  · obtain ⟨⟨j1, j2, j3, j4, j5⟩, hx⟩ := hs
    refine ⟨upI s.2 103 (nsD D) 1000, hx.trans ?_, ⟨?_, fun i hi => ?_, fun i hi m hm => ?_⟩⟩
    · show F_X12_laysStretches_J175 N s.2 = _
      unfold F_X12_laysStretches_J175
      rw [j2, inb_in (by omega)]
    · rw [up_pl (by decide)]; exact j2
    · by_cases e : i = nsD D
      · subst e; rw [up_same, hn.2.2.2]
      · rw [up_ix (by omega)]; exact j4 i (by omega)
    · rw [up_pl (by decide)]; exact j5 i hi m hm
  · obtain ⟨u, τ⟩ := s
    obtain ⟨rfl, i2, i3, i4, i5⟩ := hI
    have lt := hn.2.2.1 k hk
    have M1 : ModR (upI τ 103 k (stD D k)) D := i3.fr V (fun a j h => upI_ne (by omega))
    obtain ⟨τ1, q1, q2, q3⟩ := m_laysShares hN M1 V (stD D k)
    refine Exists.elim (loop_X (b := fun x q nx => F_X12_laysStretches_B31 N x nx g (stD D k) q.1 q.2) (fin := fun x s => F_X12_laysStretches_J106 N x g (stD D k) s.2) (N := N) (s0 := ((0 : Int), τ1)) (fun i s => s.1 = i ∧ (∀ a j, a ≠ 104 → s.2.1 a j = τ1.1 a j) ∧ s.2.2 = τ1.2 ∧ (∀ j : Int, j < 8 * k → s.2.1 104 j = τ1.1 104 j) ∧ ∀ m : Nat, m < i → s.2.1 104 (8 * k + m) = rlb (pct D (stD D k)) g (dm D) m) (dm D) (bigN hN) ⟨rfl, fun _ _ _ => rfl, rfl, fun _ _ => rfl, fun m h => by omega⟩ (fun i s hi hI => ?_) (fun s hI x nx => ?_)) (fun s hs => ?_)
    rotate_right
    · obtain ⟨⟨l1, l2, l3, l4, l5⟩, hx⟩ := hs
      have e30 : s.2.1 94 30 = k := by rw [l2 94 30 (by decide), q2, up_pl (by decide)]; exact i2
      have Ms : ModR (upI s.2 94 30 ((k : Int) + 1)) D := M1.fr V (fun a j h => by rw [upI_ne (by omega), l2 a j (by omega), q2])
      refine ⟨(stD D (k + 1), upI s.2 94 30 ((k : Int) + 1)), ⟨rfl, by rw [up_same]; omega, Ms, fun i hi => ?_, fun i hi m hm => ?_⟩, fun nx => ?_⟩
      · show (upI s.2 94 30 _).1 103 i = _
        rw [up_pl (by decide), l2 103 i (by decide), q2]
        by_cases e : i = k
        · subst e; rw [up_same]
        · rw [up_ix (by omega)]; exact i4 i (by omega)
      · show (upI s.2 94 30 _).1 104 _ = _
        rw [up_pl (by decide)]
        by_cases e : i = k
        · subst e; exact l5 m hm
        · rw [l4 _ (by omega), q2, up_pl (by decide)]; exact i5 i (by omega) m hm
      · show F_X12_laysStretches_B7 N nx g (stD D k) τ = _
        unfold F_X12_laysStretches_B7
        rw [if_neg (by omega), i2, inb_in (by omega), q1]
        refine (hx nx).trans ?_
        show F_X12_laysStretches_J106 N nx g (stD D k) s.2 = _
        unfold F_X12_laysStretches_J106
        rw [e30, ja_1 (by omega) (by omega)]
        exact m_next hN Ms V g (stD D k) nx
    · obtain ⟨u, τ'⟩ := s
      obtain ⟨rfl, l2, l3, l4, l5⟩ := hI
      have M' : ModR τ' D := M1.fr V (fun a j h => by rw [l2 a j (by omega), q2])
      have S' : ShrM τ' D (stD D k) := fun a b x y z w => by rw [l3]; exact q3 a b x y z w
      have e30 : τ'.1 94 30 = k := by rw [l2 94 30 (by decide), q2, up_pl (by decide)]; exact i2
      have ix : ja (jm 8 (k : Int)) (i : Int) = 8 * k + i := ix8' (by omega) (by omega) (by omega) (by omega)
      refine ⟨((i : Int) + 1, upI τ' 104 (8 * k + i) (rlb (pct D (stD D k)) g (dm D) i)), ⟨by show (i : Int) + 1 = _; omega, fun a j h => ?_, l3, fun j h => ?_, fun m hm => ?_⟩, fun x nx => ?_⟩
      · show (upI τ' _ _ _).1 a j = _
        rw [up_pl h]; exact l2 a j h
      · show (upI τ' _ _ _).1 _ j = _
        rw [up_ix (by omega)]; exact l4 j h
      · show (upI τ' _ _ _).1 _ _ = _
        by_cases e : m = i
        · subst e; rw [up_same]
        · rw [up_ix (by omega)]; exact l5 m (by omega)
      · show F_X12_laysStretches_B31 N x nx g (stD D k) i τ' = _
        unfold F_X12_laysStretches_B31
        rw [M'.1.1.1, if_neg (by omega), m_bits hN M' V S' g hi]
        unfold F_X12_laysStretches_J84
        rw [e30, ix, inb_in (by omega), ja_1 (by omega) (by omega)]
    · obtain ⟨u, τ'⟩ := s
      obtain ⟨rfl, l2, -⟩ := hI
      show F_X12_laysStretches_B31 N x nx g (stD D k) (dm D : Int) τ' = _
      unfold F_X12_laysStretches_B31
      rw [l2 94 11 (by decide), q2, up_pl (by decide), i3.1.1.1, if_pos (Int.le_refl _)]
  · obtain ⟨u, τ⟩ := s
    obtain ⟨rfl, i2, -⟩ := hI
    show F_X12_laysStretches_B7 N nx g (stD D (nsD D)) τ = _
    unfold F_X12_laysStretches_B7
    rw [hn.2.2.2, if_pos (by omega)]
theorem m_days (hN : BigN N) (V : Val D) {g : Int} (S : StrM σ D g) {a b : Nat} (ha : a < dm D) (hb : b < dm D) {fr to : Int} (f0 : 0 ≤ fr) (f1 : fr ≤ 999) (t0 : 0 ≤ to) (t1 : to ≤ 999) : F_X12_daysOf N a b fr to σ = some (dys D g a b fr to) := by
  have vz := V.sz
  have hn := nsD_is V
  have hn2 := hn.2.1
  unfold F_X12_daysOf dys
  refine loop_sum (b := fun q nx6 => F_X12_daysOf_B6 N nx6 a b fr to q.1 q.2 σ) (fin := fun k => some k) 1000 (bigN hN) (by omega) (by omega) (by omega) (fun k hk => by have := dysF_bd V g a b fr to f0 k; omega) (fun k s nx hk hr hs => ?_) (fun s nx => ?_)
  · show F_X12_daysOf_B6 N nx a b fr to s (k : Int) σ = _
    unfold F_X12_daysOf_B6 F_X12_daysOf_J59 F_X12_daysOf_J93 F_X12_daysOf_J115 F_X12_daysOf_J118
    have l1 := stD_le V k
    have l2 := stD_le V (k + 1)
    have l3 := stD_inc V (hn.2.2.1 k hk)
    have e2 := S.2.1 (k + 1) (by omega)
    rw [show ((k + 1 : Nat) : Int) = (k : Int) + 1 by omega] at e2
    have ix : ja (jm 8 (k : Int)) (a : Int) = 8 * k + a := ix8' (by omega) (by omega) (by omega) (by omega)
    rw [S.1, if_neg (by omega), ix, inb_in (by omega), inb_in (by omega), S.2.2 k hk a ha, S.2.1 k (by omega), ja_1 (k := (k : Int)) (by omega) (by omega), inb_in (by omega), inb_in (by omega), e2, js_eq (a := stD D (k + 1)) (b := 1) ⟨by omega, by omega⟩]
    unfold dysF at hr ⊢
    rw [Int.toNat_natCast] at hr ⊢
    unfold ovl at hr ⊢
    have t := tb_test0 (x := rlb (pct D (stD D k)) g (dm D) a) (k := b) (by omega)
    rw [tb_rlb vz.1 _ hb] at t
    by_cases c : relB (pct D (stD D k)) g (dm D) a b = true
    · have c2 : ¬ jand (jshr (rlb (pct D (stD D k)) g (dm D) a) b) 1 = 0 := fun z => by rw [t.mp z] at c; cases c
      rw [if_neg c2, if_pos c]
      rw [if_pos c] at hr
      rcases Int.lt_or_le fr (stD D k) with q1 | q1
      · rw [if_neg (by omega)]
        rw [if_neg (by omega : ¬ stD D k < fr)] at hr ⊢
        rcases Int.lt_or_le (stD D (k + 1) - 1) to with q2 | q2
        · rw [if_neg (by omega)]
          rw [if_pos q2] at hr ⊢
          by_cases q3 : stD D k ≤ stD D (k + 1) - 1
          · rw [if_pos q3] at hr ⊢
            rw [if_neg (by omega), js_eq ⟨by omega, by omega⟩, ja_eq (a := _ - _) (b := 1) ⟨by omega, by omega⟩, ja_eq hr]
          · omega
        · rw [if_pos q2]
          rw [if_neg (by omega : ¬ stD D (k + 1) - 1 < to)] at hr ⊢
          by_cases q3 : stD D k ≤ to
          · rw [if_pos q3] at hr ⊢
            rw [if_neg (by omega), js_eq ⟨by omega, by omega⟩, ja_eq (a := _ - _) (b := 1) ⟨by omega, by omega⟩, ja_eq hr]
          · rw [if_neg q3, if_pos (by omega), ja_eq (a := s) (b := 0) (by rw [Int.add_zero]; exact hs)]
      · rw [if_pos q1]
        have eq1 : (if stD D k < fr then fr else stD D k) = fr := by split <;> omega
        rw [eq1] at hr ⊢
        rcases Int.lt_or_le (stD D (k + 1) - 1) to with q2 | q2
        · rw [if_neg (by omega)]
          rw [if_pos q2] at hr ⊢
          by_cases q3 : fr ≤ stD D (k + 1) - 1
          · rw [if_pos q3] at hr ⊢
            rw [if_neg (by omega), js_eq ⟨by omega, by omega⟩, ja_eq (a := _ - _) (b := 1) ⟨by omega, by omega⟩, ja_eq hr]
          · rw [if_neg q3, if_pos (by omega), ja_eq (a := s) (b := 0) (by rw [Int.add_zero]; exact hs)]
        · rw [if_pos q2]
          rw [if_neg (by omega : ¬ stD D (k + 1) - 1 < to)] at hr ⊢
          by_cases q3 : fr ≤ to
          · rw [if_pos q3] at hr ⊢
            rw [if_neg (by omega), js_eq ⟨by omega, by omega⟩, ja_eq (a := _ - _) (b := 1) ⟨by omega, by omega⟩, ja_eq hr]
          · rw [if_neg q3, if_pos (by omega), ja_eq (a := s) (b := 0) (by rw [Int.add_zero]; exact hs)]
    · have c2 : jand (jshr (rlb (pct D (stD D k)) g (dm D) a) b) 1 = 0 := t.mpr (by
        cases h : relB (pct D (stD D k)) g (dm D) a b
        · rfl
        · exact absurd h c)
      rw [if_pos c2, if_neg c, Int.add_zero]
  · show F_X12_daysOf_B6 N nx a b fr to s (nsD D : Int) σ = _
    unfold F_X12_daysOf_B6
    rw [S.1, if_pos (Int.le_refl _)]
end MST
