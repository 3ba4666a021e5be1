/-! what is read grows: a member, a period, a part, a setting -/
def addMb (D : Dk) (a b d : Int) : Dk := ((dm D + 1, dp D, dn D, dc D), fun r x => if x = (dm D : Int) ∧ 1 ≤ r ∧ r ≤ 3 then (if r = 1 then a else if r = 2 then b else d) else D.2 r x)
def addPd (D : Dk) (a b p d : Int) : Dk := ((dm D, dp D + 1, dn D, dc D), fun r x => if x = (dp D : Int) ∧ 4 ≤ r ∧ r ≤ 7 then (if r = 4 then a else if r = 5 then b else if r = 6 then p else d) else D.2 r x)
def setD (D : Dk) (j v : Int) : Dk := (D.1, fun r x => if r = 0 ∧ x = j then v else D.2 r x)
section GROW
variable {N : Nat} {c c' m m' : Sto} {bk n : Nat} {C : Nat → Int} {D : Dk} {L a b p d j v : Int}
theorem addMb_row {r : Nat} (h : r < 1 ∨ 3 < r) : (addMb D a b d).2 r = D.2 r := by
  funext x
  show (if x = (dm D : Int) ∧ 1 ≤ r ∧ r ≤ 3 then _ else D.2 r x) = D.2 r x
  rw [if_neg (by omega)]
theorem addMb_old {r : Nat} {x : Int} (h : x ≠ dm D) : (addMb D a b d).2 r x = D.2 r x := if_neg (fun z => h z.1)
theorem addMb_new : (addMb D a b d).2 1 (dm D) = a ∧ (addMb D a b d).2 2 (dm D) = b ∧ (addMb D a b d).2 3 (dm D) = d := by
  refine ⟨?_, ?_, ?_⟩
  · show (if (dm D : Int) = (dm D : Int) ∧ 1 ≤ 1 ∧ 1 ≤ 3 then _ else _) = a
    rw [if_pos ⟨rfl, by decide, by decide⟩, if_pos rfl]
  · show (if (dm D : Int) = (dm D : Int) ∧ 1 ≤ 2 ∧ 2 ≤ 3 then _ else _) = b
    rw [if_pos ⟨rfl, by decide, by decide⟩, if_neg (by decide), if_pos rfl]
  · show (if (dm D : Int) = (dm D : Int) ∧ 1 ≤ 3 ∧ 3 ≤ 3 then _ else _) = d
    rw [if_pos ⟨rfl, by decide, by decide⟩, if_neg (by decide), if_neg (by decide)]
theorem addPd_row {r : Nat} (h : r < 4 ∨ 7 < r) : (addPd D a b p d).2 r = D.2 r := by
  funext x
  show (if x = (dp D : Int) ∧ 4 ≤ r ∧ r ≤ 7 then _ else D.2 r x) = D.2 r x
  rw [if_neg (by omega)]
theorem addPd_old {r : Nat} {x : Int} (h : x ≠ dp D) : (addPd D a b p d).2 r x = D.2 r x := if_neg (fun z => h z.1)
theorem addPd_new : (addPd D a b p d).2 4 (dp D) = a ∧ (addPd D a b p d).2 5 (dp D) = b ∧ (addPd D a b p d).2 6 (dp D) = p ∧ (addPd D a b p d).2 7 (dp D) = d := by
  refine ⟨?_, ?_, ?_, ?_⟩
  · show (if (dp D : Int) = (dp D : Int) ∧ 4 ≤ 4 ∧ 4 ≤ 7 then _ else _) = a
    rw [if_pos ⟨rfl, by decide, by decide⟩, if_pos rfl]
  · show (if (dp D : Int) = (dp D : Int) ∧ 4 ≤ 5 ∧ 5 ≤ 7 then _ else _) = b
    rw [if_pos ⟨rfl, by decide, by decide⟩, if_neg (by decide), if_pos rfl]
  · show (if (dp D : Int) = (dp D : Int) ∧ 4 ≤ 6 ∧ 6 ≤ 7 then _ else _) = p
    rw [if_pos ⟨rfl, by decide, by decide⟩, if_neg (by decide), if_neg (by decide), if_pos rfl]
  · show (if (dp D : Int) = (dp D : Int) ∧ 4 ≤ 7 ∧ 7 ≤ 7 then _ else _) = d
    rw [if_pos ⟨rfl, by decide, by decide⟩, if_neg (by decide), if_neg (by decide), if_neg (by decide)]
theorem setD_row {r : Nat} (h : r ≠ 0) : (setD D j v).2 r = D.2 r := by
  funext x
  exact if_neg (fun z => h z.1)
theorem setD_old {x : Int} (h : x ≠ j) : (setD D j v).2 0 x = D.2 0 x := if_neg (fun z => h z.2)
theorem setD_new : (setD D j v).2 0 j = v := if_pos ⟨rfl, rfl⟩
theorem addMb_val (V : Val D) (h : dm D < 8) (h1 : 0 ≤ b ∧ b ≤ 99) (h2 : 0 ≤ d ∧ d ≤ 99) : Val (addMb D a b d) := by
  have vz := V.sz
  refine ⟨⟨by show dm D + 1 ≤ 8; omega, vz.2.1, vz.2.2.1, vz.2.2.2⟩, ?_, fun k k0 k1 => ?_, fun k k0 k1 => ?_, fun k k0 k1 => ?_, ?_⟩
  · rw [addMb_row (by omega)]; exact V.sc
  · have k1 : k < ((dm D + 1 : Nat) : Int) := k1
    by_cases e : k = dm D
    · subst e
      rw [addMb_new.2.1, addMb_new.2.2]; exact ⟨h1, h2⟩
    · rw [addMb_old e, addMb_old e]; exact V.mem k0 (by omega)
  · have v := V.per (p := k) k0 k1
    rw [addMb_row (by omega), addMb_row (by omega), addMb_row (by omega), addMb_row (by omega)]
    refine ⟨⟨v.1.1, ?_⟩, v.2⟩
    show D.2 4 k < ((dm D + 1 : Nat) : Int)
    have := v.1.2; omega
  · have v := V.own (k := k) k0 k1
    rw [addMb_row (by omega), addMb_row (by omega), addMb_row (by omega), addMb_row (by omega)]
    refine ⟨⟨v.1.1, v.1.2.1, ?_⟩, v.2⟩
    show D.2 9 k < ((dm D + 1 : Nat) : Int)
    have := v.1.2.2; omega
  · rw [addMb_row (by omega), addMb_row (by omega), addMb_row (by omega)]; exact V.2.2.2.2.2
theorem addPd_val (V : Val D) (hc : dc D = 0) (h : dp D < 12) (h1 : 0 ≤ a ∧ a < dm D) (h2 : 0 ≤ b ∧ b ≤ p ∧ p ≤ 999) (h3 : -99999 ≤ d ∧ d ≤ 99999) : Val (addPd D a b p d) := by
  have vz := V.sz
  refine ⟨⟨vz.1, by show dp D + 1 ≤ 12; omega, vz.2.2.1, vz.2.2.2⟩, ?_, ?_, fun k k0 k1 => ?_, ?_, fun k k0 k1 => ?_⟩
  · rw [addPd_row (by omega)]; exact V.sc
  · rw [addPd_row (by omega), addPd_row (by omega)]; exact V.2.2.1
  · have k1 : k < ((dp D + 1 : Nat) : Int) := k1
    by_cases e : k = dp D
    · subst e
      rw [addPd_new.1, addPd_new.2.1, addPd_new.2.2.1, addPd_new.2.2.2]; exact ⟨h1, h2, h3⟩
    · rw [addPd_old e, addPd_old e, addPd_old e, addPd_old e]; exact V.per k0 (by omega)
  · rw [addPd_row (by omega), addPd_row (by omega), addPd_row (by omega), addPd_row (by omega)]; exact V.2.2.2.2.1
  · have k1 : k < (dc D : Int) := k1
    omega
theorem setD_val (V : Val D) (h : (j = 0 ∧ 1 ≤ v ∧ v ≤ 100) ∨ (j = 1 ∧ 0 ≤ v ∧ v ≤ 2) ∨ (j = 2 ∧ 0 ≤ v ∧ v ≤ 99999) ∨ (j = 3 ∧ 0 ≤ v ∧ v ≤ 1)) : Val (setD D j v) := by
  refine ⟨V.1, ?_, ?_, ?_, ?_, ?_⟩
  · have s := V.sc
    rcases h with ⟨rfl, h⟩ | ⟨rfl, h⟩ | ⟨rfl, h⟩ | ⟨rfl, h⟩
    · rw [setD_new, setD_old (by decide), setD_old (by decide), setD_old (by decide)]; exact ⟨h, s.2⟩
    · rw [setD_new, setD_old (by decide), setD_old (by decide), setD_old (by decide)]; exact ⟨s.1, h, s.2.2⟩
    · rw [setD_new, setD_old (by decide), setD_old (by decide), setD_old (by decide)]; exact ⟨s.1, s.2.1, h, s.2.2.2⟩
    · rw [setD_new, setD_old (by decide), setD_old (by decide), setD_old (by decide)]; exact ⟨s.1, s.2.1, s.2.2.1, h⟩
  · rw [setD_row (by decide), setD_row (by decide)]; exact V.2.2.1
  · rw [setD_row (by decide), setD_row (by decide), setD_row (by decide), setD_row (by decide)]; exact V.2.2.2.1
  · rw [setD_row (by decide), setD_row (by decide), setD_row (by decide), setD_row (by decide)]; exact V.2.2.2.2.1
  · rw [setD_row (by decide), setD_row (by decide), setD_row (by decide)]; exact V.2.2.2.2.2
theorem TX.grow {E : Dk} (T : TX c m bk n C D L) (V : Val E) (h0 : dc E = 0) (h1 : dn E ≤ 16) (hb : BokR c' bk E) (hr : RdM m' E) (hc : ∀ z, z = 2 ∨ 7 ≤ z → c'.1 1 z = c.1 1 z) (hc2 : ∀ z, c'.1 2 z = c.1 2 z) (hm : ∀ y z, (y = 94 ∧ (z = 4 ∨ z = 5 ∨ z = 6 ∨ z = 21)) ∨ y = 95 ∨ y = 96 → m'.1 y z = m.1 y z) : TX c' m' bk n C E L := by
  obtain ⟨t1, t2, t3, t7, t11, t12, t13, t14, t15, t16, t17, t18⟩ := T
  refine ⟨t1.cg (hc _ (by omega)) hc2, t2.cg (hm _ _ (by omega)) (fun z => hm _ _ (by omega)) (fun z => hm _ _ (by omega)), hb, hr, V, h0, h1, ?_, ?_, ?_, ?_, t18⟩
  · rw [hc _ (by omega), hm _ _ (by omega)]; exact t14
  · rw [hc _ (by omega)]; exact t15
  · rw [hc _ (by omega), hm _ _ (by omega)]; exact t16
  · rw [hc _ (by omega), hm _ _ (by omega)]; exact t17
theorem BokR.mb (B : BokR c bk D) (hc : ∀ (y : Nat) (z : Int), bk ≤ y → ¬ (bk + 1 ≤ y ∧ y ≤ bk + 3 ∧ z = dm D) → ¬ (y = bk ∧ z = 8) → c'.1 y z = c.1 y z) (h8 : c'.1 bk 8 = (dm D : Int) + 1) (h1 : c'.1 (bk + 1) (dm D) = a) (h2 : c'.1 (bk + 2) (dm D) = b) (h3 : c'.1 (bk + 3) (dm D) = d) : BokR c' bk (addMb D a b d) := by
  obtain ⟨t3, t4, t5, t6⟩ := B
  refine ⟨?_, fun k k0 k1 => ?_, fun k k0 k1 => ?_, ?_⟩
  · rw [h8, hc bk 9 (by omega) (by omega) (by omega), hc bk 10 (by omega) (by omega) (by omega), hc bk 11 (by omega) (by omega) (by omega), hc bk 12 (by omega) (by omega) (by omega), hc bk 13 (by omega) (by omega) (by omega), addMb_row (by omega)]
    exact ⟨by show (dm D : Int) + 1 = ((dm D + 1 : Nat) : Int); omega, t3.2⟩
  · have k1 : k < ((dm D + 1 : Nat) : Int) := k1
    by_cases e : k = dm D
    · subst e
      rw [addMb_new.1, addMb_new.2.1, addMb_new.2.2]; exact ⟨h1, h2, h3⟩
    · rw [addMb_old e, addMb_old e, addMb_old e, hc (bk + 1) k (by omega) (by omega) (by omega), hc (bk + 2) k (by omega) (by omega) (by omega), hc (bk + 3) k (by omega) (by omega) (by omega)]; exact t4 k k0 (by omega)
  · rw [addMb_row (by omega), addMb_row (by omega), addMb_row (by omega), addMb_row (by omega), hc (bk + 4) k (by omega) (by omega) (by omega), hc (bk + 5) k (by omega) (by omega) (by omega), hc (bk + 6) k (by omega) (by omega) (by omega), hc (bk + 7) k (by omega) (by omega) (by omega)]; exact t5 k k0 k1
  · have t6 := t6.cg (σ' := c') (fun a j p q => hc a j (by omega) (by omega) (by omega))
    refine ⟨t6.1, fun k k0 k1 => ?_⟩
    rw [addMb_row (by omega), addMb_row (by omega), addMb_row (by omega), addMb_row (by omega)]; exact t6.2 k k0 k1
theorem RdM.mb (B : RdM m D) (hm : ∀ (y : Nat) (z : Int), 94 ≤ y → ¬ (y = 97 ∧ 24 + 3 * (dm D : Int) ≤ z) → ¬ (y = 94 ∧ (z = 12 ∨ (7 ≤ z ∧ z ≤ 10) ∨ z = 22)) → m'.1 y z = m.1 y z) (h8 : m'.1 94 12 = (dm D : Int) + 1) (h1 : m'.1 97 (24 + 3 * (dm D : Int)) = a) (h2 : m'.1 97 (24 + 3 * (dm D : Int) + 1) = b) (h3 : m'.1 97 (24 + 3 * (dm D : Int) + 2) = d) : RdM m' (addMb D a b d) := by
  obtain ⟨t3, t4, t5, t6⟩ := B
  refine ⟨?_, fun k k0 k1 => ?_, fun k k0 k1 => ?_, fun k k0 k1 => ?_⟩
  · rw [h8, hm 94 15 (by omega) (by omega) (by omega), hm 94 18 (by omega) (by omega) (by omega), hm 100 4 (by omega) (by omega) (by omega), hm 100 5 (by omega) (by omega) (by omega), hm 100 6 (by omega) (by omega) (by omega), hm 100 7 (by omega) (by omega) (by omega), addMb_row (by omega)]
    exact ⟨by show (dm D : Int) + 1 = ((dm D + 1 : Nat) : Int); omega, t3.2⟩
  · have k1 : k < ((dm D + 1 : Nat) : Int) := k1
    by_cases e : k = dm D
    · subst e
      rw [addMb_new.1, addMb_new.2.1, addMb_new.2.2]; exact ⟨h1, h2, h3⟩
    · rw [addMb_old e, addMb_old e, addMb_old e, hm 97 (24 + 3 * k) (by omega) (by omega) (by omega), hm 97 (24 + 3 * k + 1) (by omega) (by omega) (by omega), hm 97 (24 + 3 * k + 2) (by omega) (by omega) (by omega)]; exact t4 k k0 (by omega)
  · rw [addMb_row (by omega), addMb_row (by omega), addMb_row (by omega), addMb_row (by omega), hm 98 (48 + 4 * k) (by omega) (by omega) (by omega), hm 98 (48 + 4 * k + 1) (by omega) (by omega) (by omega), hm 98 (48 + 4 * k + 2) (by omega) (by omega) (by omega), hm 98 (48 + 4 * k + 3) (by omega) (by omega) (by omega)]; exact t5 k k0 k1
  · rw [addMb_row (by omega), addMb_row (by omega), addMb_row (by omega), addMb_row (by omega), hm 99 (64 + 4 * k) (by omega) (by omega) (by omega), hm 99 (64 + 4 * k + 1) (by omega) (by omega) (by omega), hm 99 (64 + 4 * k + 2) (by omega) (by omega) (by omega), hm 99 (64 + 4 * k + 3) (by omega) (by omega) (by omega)]; exact t6 k k0 k1
theorem BokR.pd (B : BokR c bk D) (hc : ∀ (y : Nat) (z : Int), bk ≤ y → ¬ (bk + 4 ≤ y ∧ y ≤ bk + 7 ∧ z = dp D) → ¬ (y = bk ∧ z = 9) → c'.1 y z = c.1 y z) (h8 : c'.1 bk 9 = (dp D : Int) + 1) (h1 : c'.1 (bk + 4) (dp D) = a) (h2 : c'.1 (bk + 5) (dp D) = b) (h3 : c'.1 (bk + 6) (dp D) = p) (h4 : c'.1 (bk + 7) (dp D) = d) : BokR c' bk (addPd D a b p d) := by
  obtain ⟨t3, t4, t5, t6⟩ := B
  refine ⟨?_, fun k k0 k1 => ?_, fun k k0 k1 => ?_, ?_⟩
  · rw [h8, hc bk 8 (by omega) (by omega) (by omega), hc bk 10 (by omega) (by omega) (by omega), hc bk 11 (by omega) (by omega) (by omega), hc bk 12 (by omega) (by omega) (by omega), hc bk 13 (by omega) (by omega) (by omega), addPd_row (by omega)]
    exact ⟨t3.1, by show (dp D : Int) + 1 = ((dp D + 1 : Nat) : Int); omega, t3.2.2⟩
  · rw [addPd_row (by omega), addPd_row (by omega), addPd_row (by omega), hc (bk + 1) k (by omega) (by omega) (by omega), hc (bk + 2) k (by omega) (by omega) (by omega), hc (bk + 3) k (by omega) (by omega) (by omega)]; exact t4 k k0 k1
  · have k1 : k < ((dp D + 1 : Nat) : Int) := k1
    by_cases e : k = dp D
    · subst e
      rw [addPd_new.1, addPd_new.2.1, addPd_new.2.2.1, addPd_new.2.2.2]; exact ⟨h1, h2, h3, h4⟩
    · rw [addPd_old e, addPd_old e, addPd_old e, addPd_old e, hc (bk + 4) k (by omega) (by omega) (by omega), hc (bk + 5) k (by omega) (by omega) (by omega), hc (bk + 6) k (by omega) (by omega) (by omega), hc (bk + 7) k (by omega) (by omega) (by omega)]; exact t5 k k0 (by omega)
  · have t6 := t6.cg (σ' := c') (fun a j p q => hc a j (by omega) (by omega) (by omega))
    refine ⟨t6.1, fun k k0 k1 => ?_⟩
    rw [addPd_row (by omega), addPd_row (by omega), addPd_row (by omega), addPd_row (by omega)]; exact t6.2 k k0 k1
theorem RdM.pd (B : RdM m D) (hm : ∀ (y : Nat) (z : Int), 94 ≤ y → ¬ (y = 98 ∧ 48 + 4 * (dp D : Int) ≤ z) → ¬ (y = 94 ∧ (z = 15 ∨ (7 ≤ z ∧ z ≤ 10) ∨ z = 22)) → m'.1 y z = m.1 y z) (h8 : m'.1 94 15 = (dp D : Int) + 1) (h1 : m'.1 98 (48 + 4 * (dp D : Int)) = a) (h2 : m'.1 98 (48 + 4 * (dp D : Int) + 1) = b) (h3 : m'.1 98 (48 + 4 * (dp D : Int) + 2) = p) (h4 : m'.1 98 (48 + 4 * (dp D : Int) + 3) = d) : RdM m' (addPd D a b p d) := by
  obtain ⟨t3, t4, t5, t6⟩ := B
  refine ⟨?_, fun k k0 k1 => ?_, fun k k0 k1 => ?_, fun k k0 k1 => ?_⟩
  · rw [h8, hm 94 12 (by omega) (by omega) (by omega), hm 94 18 (by omega) (by omega) (by omega), hm 100 4 (by omega) (by omega) (by omega), hm 100 5 (by omega) (by omega) (by omega), hm 100 6 (by omega) (by omega) (by omega), hm 100 7 (by omega) (by omega) (by omega), addPd_row (by omega)]
    exact ⟨t3.1, by show (dp D : Int) + 1 = ((dp D + 1 : Nat) : Int); omega, t3.2.2⟩
  · rw [addPd_row (by omega), addPd_row (by omega), addPd_row (by omega), hm 97 (24 + 3 * k) (by omega) (by omega) (by omega), hm 97 (24 + 3 * k + 1) (by omega) (by omega) (by omega), hm 97 (24 + 3 * k + 2) (by omega) (by omega) (by omega)]; exact t4 k k0 k1
  · have k1 : k < ((dp D + 1 : Nat) : Int) := k1
    by_cases e : k = dp D
    · subst e
      rw [addPd_new.1, addPd_new.2.1, addPd_new.2.2.1, addPd_new.2.2.2]; exact ⟨h1, h2, h3, h4⟩
    · rw [addPd_old e, addPd_old e, addPd_old e, addPd_old e, hm 98 (48 + 4 * k) (by omega) (by omega) (by omega), hm 98 (48 + 4 * k + 1) (by omega) (by omega) (by omega), hm 98 (48 + 4 * k + 2) (by omega) (by omega) (by omega), hm 98 (48 + 4 * k + 3) (by omega) (by omega) (by omega)]; exact t5 k k0 (by omega)
  · rw [addPd_row (by omega), addPd_row (by omega), addPd_row (by omega), addPd_row (by omega), hm 99 (64 + 4 * k) (by omega) (by omega) (by omega), hm 99 (64 + 4 * k + 1) (by omega) (by omega) (by omega), hm 99 (64 + 4 * k + 2) (by omega) (by omega) (by omega), hm 99 (64 + 4 * k + 3) (by omega) (by omega) (by omega)]; exact t6 k k0 k1
theorem BokR.ow (B : BokR c bk D) (hc : ∀ (y : Nat) (z : Int), bk ≤ y → y < bk + 8 → c'.1 y z = c.1 y z) (h : PtsR c' (bk + 8) (addO D a b p d)) : BokR c' bk (addO D a b p d) := by
  obtain ⟨t3, t4, t5, t6⟩ := B
  refine ⟨?_, fun k k0 k1 => ?_, fun k k0 k1 => ?_, h⟩
  · rw [hc bk 8 (by omega) (by omega), hc bk 9 (by omega) (by omega), hc bk 10 (by omega) (by omega), hc bk 11 (by omega) (by omega), hc bk 12 (by omega) (by omega), hc bk 13 (by omega) (by omega), addO_row (by omega)]; exact t3
  · rw [addO_row (by omega), addO_row (by omega), addO_row (by omega), hc (bk + 1) k (by omega) (by omega), hc (bk + 2) k (by omega) (by omega), hc (bk + 3) k (by omega) (by omega)]; exact t4 k k0 k1
  · rw [addO_row (by omega), addO_row (by omega), addO_row (by omega), addO_row (by omega), hc (bk + 4) k (by omega) (by omega), hc (bk + 5) k (by omega) (by omega), hc (bk + 6) k (by omega) (by omega), hc (bk + 7) k (by omega) (by omega)]; exact t5 k k0 k1
theorem RdM.ow (B : RdM m D) (hm : ∀ (y : Nat) (z : Int), 94 ≤ y → ¬ (y = 99 ∧ 64 + 4 * (dn D : Int) ≤ z) → ¬ (y = 94 ∧ (z = 18 ∨ (7 ≤ z ∧ z ≤ 10) ∨ z = 22)) → m'.1 y z = m.1 y z) (h8 : m'.1 94 18 = (dn D : Int) + 1) (h1 : m'.1 99 (64 + 4 * (dn D : Int)) = a) (h2 : m'.1 99 (64 + 4 * (dn D : Int) + 1) = b) (h3 : m'.1 99 (64 + 4 * (dn D : Int) + 2) = p) (h4 : m'.1 99 (64 + 4 * (dn D : Int) + 3) = d) : RdM m' (addO D a b p d) := by
  obtain ⟨t3, t4, t5, t6⟩ := B
  refine ⟨?_, fun k k0 k1 => ?_, fun k k0 k1 => ?_, fun k k0 k1 => ?_⟩
  · rw [h8, hm 94 12 (by omega) (by omega) (by omega), hm 94 15 (by omega) (by omega) (by omega), hm 100 4 (by omega) (by omega) (by omega), hm 100 5 (by omega) (by omega) (by omega), hm 100 6 (by omega) (by omega) (by omega), hm 100 7 (by omega) (by omega) (by omega), addO_row (by omega)]
    exact ⟨t3.1, t3.2.1, by show (dn D : Int) + 1 = ((dn D + 1 : Nat) : Int); omega, t3.2.2.2⟩
  · rw [addO_row (by omega), addO_row (by omega), addO_row (by omega), hm 97 (24 + 3 * k) (by omega) (by omega) (by omega), hm 97 (24 + 3 * k + 1) (by omega) (by omega) (by omega), hm 97 (24 + 3 * k + 2) (by omega) (by omega) (by omega)]; exact t4 k k0 k1
  · rw [addO_row (by omega), addO_row (by omega), addO_row (by omega), addO_row (by omega), hm 98 (48 + 4 * k) (by omega) (by omega) (by omega), hm 98 (48 + 4 * k + 1) (by omega) (by omega) (by omega), hm 98 (48 + 4 * k + 2) (by omega) (by omega) (by omega), hm 98 (48 + 4 * k + 3) (by omega) (by omega) (by omega)]; exact t5 k k0 k1
  · have k1 : k < ((dn D + 1 : Nat) : Int) := k1
    by_cases e : k = dn D
    · subst e
      rw [addO_new.1, addO_new.2.1, addO_new.2.2.1, addO_new.2.2.2]; exact ⟨h1, h2, h3, h4⟩
    · rw [addO_old e, addO_old e, addO_old e, addO_old e, hm 99 (64 + 4 * k) (by omega) (by omega) (by omega), hm 99 (64 + 4 * k + 1) (by omega) (by omega) (by omega), hm 99 (64 + 4 * k + 2) (by omega) (by omega) (by omega), hm 99 (64 + 4 * k + 3) (by omega) (by omega) (by omega)]; exact t6 k k0 (by omega)
theorem BokR.se {z0 : Int} (B : BokR c bk D) (h : (j = 0 ∧ z0 = 10) ∨ (j = 1 ∧ z0 = 11) ∨ (j = 2 ∧ z0 = 13) ∨ (j = 3 ∧ z0 = 12)) : BokR (upI c bk z0 v) bk (setD D j v) := by
  obtain ⟨t3, t4, t5, t6⟩ := B
  refine ⟨?_, fun k k0 k1 => ?_, fun k k0 k1 => ?_, ?_⟩
  · rcases h with ⟨rfl, rfl⟩ | ⟨rfl, rfl⟩ | ⟨rfl, rfl⟩ | ⟨rfl, rfl⟩
    · rw [setD_new, setD_old (by decide), setD_old (by decide), setD_old (by decide), up_same, up_ix (by decide), up_ix (by decide), up_ix (by decide), up_ix (by decide), up_ix (by decide)]
      exact ⟨t3.1, t3.2.1, rfl, t3.2.2.2⟩
    · rw [setD_new, setD_old (by decide), setD_old (by decide), setD_old (by decide), up_ix (by decide), up_ix (by decide), up_ix (by decide), up_same, up_ix (by decide), up_ix (by decide)]
      exact ⟨t3.1, t3.2.1, t3.2.2.1, rfl, t3.2.2.2.2⟩
    · rw [setD_new, setD_old (by decide), setD_old (by decide), setD_old (by decide), up_ix (by decide), up_ix (by decide), up_ix (by decide), up_ix (by decide), up_ix (by decide), up_same]
      exact ⟨t3.1, t3.2.1, t3.2.2.1, t3.2.2.2.1, t3.2.2.2.2.1, rfl⟩
    · rw [setD_new, setD_old (by decide), setD_old (by decide), setD_old (by decide), up_ix (by decide), up_ix (by decide), up_ix (by decide), up_ix (by decide), up_same, up_ix (by decide)]
      exact ⟨t3.1, t3.2.1, t3.2.2.1, t3.2.2.2.1, rfl, t3.2.2.2.2.2⟩
  · rw [setD_row (by decide), setD_row (by decide), setD_row (by decide), up_pl (by omega), up_pl (by omega), up_pl (by omega)]; exact t4 k k0 k1
  · rw [setD_row (by decide), setD_row (by decide), setD_row (by decide), setD_row (by decide), up_pl (by omega), up_pl (by omega), up_pl (by omega), up_pl (by omega)]; exact t5 k k0 k1
  · refine ⟨by rw [up_pl (by omega)]; exact t6.1, fun k k0 k1 => ?_⟩
    rw [setD_row (by decide), setD_row (by decide), setD_row (by decide), setD_row (by decide), up_pl (by omega), up_pl (by omega), up_pl (by omega), up_pl (by omega)]; exact t6.2 k k0 k1
theorem RdM.se {z0 : Int} (B : RdM m D) (h : (j = 0 ∧ z0 = 4) ∨ (j = 1 ∧ z0 = 5) ∨ (j = 2 ∧ z0 = 6) ∨ (j = 3 ∧ z0 = 7)) : RdM (upI m 100 z0 v) (setD D j v) := by
  obtain ⟨t3, t4, t5, t6⟩ := B
  refine ⟨?_, fun k k0 k1 => ?_, fun k k0 k1 => ?_, fun k k0 k1 => ?_⟩
  · rw [up_pl (by decide), up_pl (by decide), up_pl (by decide)]
    rcases h with ⟨rfl, rfl⟩ | ⟨rfl, rfl⟩ | ⟨rfl, rfl⟩ | ⟨rfl, rfl⟩
    · rw [setD_new, setD_old (by decide), setD_old (by decide), setD_old (by decide), up_same, up_ix (by decide), up_ix (by decide), up_ix (by decide)]
      exact ⟨t3.1, t3.2.1, t3.2.2.1, rfl, t3.2.2.2.2⟩
    · rw [setD_new, setD_old (by decide), setD_old (by decide), setD_old (by decide), up_ix (by decide), up_same, up_ix (by decide), up_ix (by decide)]
      exact ⟨t3.1, t3.2.1, t3.2.2.1, t3.2.2.2.1, rfl, t3.2.2.2.2.2⟩
    · rw [setD_new, setD_old (by decide), setD_old (by decide), setD_old (by decide), up_ix (by decide), up_ix (by decide), up_same, up_ix (by decide)]
      exact ⟨t3.1, t3.2.1, t3.2.2.1, t3.2.2.2.1, t3.2.2.2.2.1, rfl, t3.2.2.2.2.2.2⟩
    · rw [setD_new, setD_old (by decide), setD_old (by decide), setD_old (by decide), up_ix (by decide), up_ix (by decide), up_ix (by decide), up_same]
      exact ⟨t3.1, t3.2.1, t3.2.2.1, t3.2.2.2.1, t3.2.2.2.2.1, t3.2.2.2.2.2.1, rfl⟩
  · rw [setD_row (by decide), setD_row (by decide), setD_row (by decide), up_pl (by omega), up_pl (by omega), up_pl (by omega)]; exact t4 k k0 k1
  · rw [setD_row (by decide), setD_row (by decide), setD_row (by decide), setD_row (by decide), up_pl (by omega), up_pl (by omega), up_pl (by omega), up_pl (by omega)]; exact t5 k k0 k1
  · rw [setD_row (by decide), setD_row (by decide), setD_row (by decide), setD_row (by decide), up_pl (by omega), up_pl (by omega), up_pl (by omega), up_pl (by omega)]; exact t6 k k0 k1
end GROW
