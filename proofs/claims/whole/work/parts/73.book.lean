/-! THE CLASS: its book, its ledger -/
section BOOK
variable {N : Nat} {σ : Sto} {b l : Nat} {D : Dk}
theorem k_hasMember (B : BokR σ b D) (m : Int) : F_X0_hasMember N b m σ = some (if 0 ≤ m ∧ m < dm D then 1 else 0) := by
  unfold F_X0_hasMember F_X0_hasMember_J16
  rw [B.1.1]
  by_cases h1 : m < 0
  · rw [if_pos h1, if_neg (by omega)]
  · rw [if_neg h1]
    by_cases h2 : (dm D : Int) ≤ m
    · rw [if_pos h2, if_neg (by omega)]
    · rw [if_neg h2, if_pos (by omega)]
theorem k_hasPeriod (B : BokR σ b D) (m : Int) : F_X0_hasPeriod N b m σ = some (if 0 ≤ m ∧ m < dp D then 1 else 0) := by
  unfold F_X0_hasPeriod F_X0_hasPeriod_J16
  rw [B.1.2.1]
  by_cases h1 : m < 0
  · rw [if_pos h1, if_neg (by omega)]
  · rw [if_neg h1]
    by_cases h2 : (dp D : Int) ≤ m
    · rw [if_pos h2, if_neg (by omega)]
    · rw [if_neg h2, if_pos (by omega)]
theorem k_find (hN : BigN N) (V : Val D) (B : BokR σ b D) (x : Int) : F_X0_find N b x σ = some (fnd (fun k => decide (D.2 1 k = x)) (dm D) 0) := by
  have v := V.sz
  unfold F_X0_find
  refine loop_find (fin := fun k => some k) (bigN hN) (fun k nx hk => ?_) (fun nx => ?_)
  · show F_X0_find_B2 N nx b x (k : Int) σ = _
    unfold F_X0_find_B2
    rw [B.1.1, if_neg (by omega), inb_in (by omega), (B.2.1 k (by omega) (by omega)).1, ja_1 (by omega) (by omega)]
    by_cases h : D.2 1 (k : Int) = x
    · rw [if_pos h, if_pos (by simp [h])]
    · rw [if_neg h, if_neg (by simp [h])]
  · show F_X0_find_B2 N nx b x (dm D : Int) σ = _
    unfold F_X0_find_B2
    rw [B.1.1, if_pos (Int.le_refl _)]
theorem k_periodsOf (hN : BigN N) (V : Val D) (B : BokR σ b D) (m : Int) : F_X0_periodsOf N b m σ = some (bset (fun k => decide (D.2 4 k = m)) (dp D)) := by
  have v := V.sz
  unfold F_X0_periodsOf
  refine loop_bits (fin := fun k => some k) (bigN hN) (fun k a nx hk _ => ?_) (fun a nx => ?_)
  · show F_X0_periodsOf_B4 N nx b m a (k : Int) σ = _
    unfold F_X0_periodsOf_B4 F_X0_periodsOf_J28
    rw [B.1.2.1, if_neg (by omega), inb_in (by omega), (B.2.2.1 k (by omega) (by omega)).1, ja_1 (by omega) (by omega)]
    by_cases h : D.2 4 (k : Int) = m
    · rw [if_pos h, if_pos (by simp [h])]
    · rw [if_neg h, if_neg (by simp [h])]
  · show F_X0_periodsOf_B4 N nx b m a (dp D : Int) σ = _
    unfold F_X0_periodsOf_B4
    rw [B.1.2.1, if_pos (Int.le_refl _)]
def sgn (x : Int) : Int := if x = 0 then 0 else if x < 0 then -1 else 1
theorem k_signOf (V : Val D) (B : BokR σ b D) {p : Int} (h0 : 0 ≤ p) (h1 : p < dp D) : F_X0_signOf N b p σ = some (sgn (D.2 7 p)) := by
  have v := V.sz
  unfold F_X0_signOf sgn
  rw [inb_in (by omega), (B.2.2.1 p h0 h1).2.2.2]
  split
  · rfl
  · split
    · rw [if_neg (by omega)]
    · rw [if_pos (by omega)]
theorem k_countSigned (hN : BigN N) (V : Val D) (B : BokR σ b D) (s : Int) : F_X0_countSigned N b s σ = some (sumTo (fun k => if sgn (D.2 7 k) = s then 1 else 0) (dp D)) := by
  have v := V.sz
  unfold F_X0_countSigned
  refine loop_sum (fin := fun k => some k) 1 (bigN hN) (by omega) (by omega) (by omega) (fun k _ => by split <;> omega) (fun k a nx hk hr ha => ?_) (fun a nx => ?_)
  · show F_X0_countSigned_B4 N nx b s a (k : Int) σ = _
    unfold F_X0_countSigned_B4 F_X0_countSigned_J24
    rw [B.1.2.1, if_neg (by omega), k_signOf V B (by omega) (by omega), ja_1 (k := (k : Int)) (by omega) (by omega)]
    show (if sgn (D.2 7 k) = s then _ else _) = _
    by_cases h : sgn (D.2 7 k) = s
    · rw [if_pos h] at hr
      rw [if_pos h, if_pos h, ja_eq hr]
    · rw [if_neg h, if_neg h, Int.add_zero]
  · show F_X0_countSigned_B4 N nx b s a (dp D : Int) σ = _
    unfold F_X0_countSigned_B4
    rw [B.1.2.1, if_pos (Int.le_refl _)]
theorem k_overlaps (hN : BigN N) (V : Val D) (B : BokR σ b D) (m fr to ex : Int) : F_X0_overlaps N b m fr to ex σ = some (if anyB (fun k => decide (k ≠ ex ∧ D.2 4 k = m ∧ D.2 5 k ≤ to ∧ fr ≤ D.2 6 k)) (dp D) = true then 1 else 0) := by
  have v := V.sz
  unfold F_X0_overlaps
  refine (loop_any (f := fun k => decide (k ≠ ex ∧ D.2 4 k = m ∧ D.2 5 k ≤ to ∧ fr ≤ D.2 6 k)) (r1 := some 1) (r0 := some 0) (m := dp D) (bigN hN) (fun k nx hk => ?_) (fun nx => ?_)).trans (by split <;> rfl)
  · show F_X0_overlaps_B3 N nx b m fr to ex (k : Int) σ = _
    unfold F_X0_overlaps_B3 F_X0_overlaps_J54
    obtain ⟨e1, e2, e3, -⟩ := B.2.2.1 k (by omega) (by omega)
    rw [B.1.2.1, if_neg (by omega), ja_1 (by omega) (by omega), e1, e2, e3]
    by_cases h : (k : Int) = ex
    · rw [if_pos h, if_neg (by simp [h])]
    · rw [if_neg h, inb_in (by omega)]
      by_cases h1 : D.2 4 k = m
      · rw [if_pos h1]
        by_cases h2 : to < D.2 5 k
        · rw [if_pos h2, if_neg (by simp; omega)]
        · rw [if_neg h2]
          by_cases h3 : D.2 6 k < fr
          · rw [if_pos h3, if_neg (by simp; omega)]
          · rw [if_neg h3, if_pos (by simp; exact ⟨h, h1, by omega, by omega⟩)]
      · rw [if_neg h1, if_neg (by simp [h1])]
  · show F_X0_overlaps_B3 N nx b m fr to ex (dp D : Int) σ = _
    unfold F_X0_overlaps_B3
    rw [B.1.2.1, if_pos (Int.le_refl _)]
theorem k_isOne (V : Val D) (B : BokR σ b D) {i j : Int} (h0 : 0 ≤ i) (h1 : i < dp D) (h2 : 0 ≤ j) (h3 : j < dp D) : F_X0_isOneMembers N b i j σ = some (if D.2 4 i = D.2 4 j then 1 else 0) := by
  have v := V.sz
  unfold F_X0_isOneMembers
  rw [inb_in (by omega), inb_in (by omega), (B.2.2.1 i h0 h1).1, (B.2.2.1 j h2 h3).1]
  split <;> rfl
theorem k_isBetween (V : Val D) (B : BokR σ b D) {i j : Int} (a c : Int) (h0 : 0 ≤ i) (h1 : i < dp D) (h2 : 0 ≤ j) (h3 : j < dp D) : F_X0_isBetween N b i j a c σ = some (if (a = -1 ∨ D.2 4 j = a) ∧ (c = -1 ∨ D.2 4 i = c) then 1 else 0) := by
  have v := V.sz
  unfold F_X0_isBetween F_X0_isBetween_J15 F_X0_isBetween_J32 F_X0_isBetween_J36
  rw [inb_in (by omega), inb_in (by omega), (B.2.2.1 i h0 h1).1, (B.2.2.1 j h2 h3).1]
  by_cases p1 : a = -1 <;> by_cases p2 : c = -1 <;> by_cases p3 : D.2 4 j = a <;> by_cases p4 : D.2 4 i = c <;> simp [p1, p2, p3, p4]
/-- PAID for an amount n by a link -/
def paid (D : Dk) (i j n : Int) : Int := if D.2 4 i = D.2 4 j then 0 else n * D.2 2 (D.2 4 i) / 100
theorem k_paidFor (V : Val D) (B : BokR σ b D) {i j n : Int} (h0 : 0 ≤ i) (h1 : i < dp D) (h2 : 0 ≤ j) (h3 : j < dp D) (n0 : 0 ≤ n) (n1 : n ≤ 9999999) : F_X0_paidFor N b i j n σ = some (paid D i j n) := by
  have v := V.sz
  unfold F_X0_paidFor paid
  rw [k_isOne V B h0 h1 h2 h3]
  have w := (V.per h0 h1).1
  have a := (V.mem w.1 w.2).1
  show (if (if D.2 4 i = D.2 4 j then (1 : Int) else 0) = 0 then _ else _) = _
  by_cases h : D.2 4 i = D.2 4 j
  · rw [if_pos h, if_pos h, if_neg (by decide)]
  · have m1 : n * D.2 2 (D.2 4 i) ≤ 9999999 * 99 := Int.mul_le_mul n1 a.2 a.1 (by decide)
    have m0 : 0 ≤ n * D.2 2 (D.2 4 i) := Int.mul_nonneg n0 a.1
    rw [if_neg h, if_neg h, if_pos rfl, inb_in (by omega), (B.2.2.1 i h0 h1).1, inb_in (by omega), (B.2.1 _ w.1 w.2).2.1, jm_eq ⟨by omega, by omega⟩, jdiv_eq ⟨by omega, by omega⟩ ⟨by omega, by omega⟩ m0 (by decide)]
def prc (D : Dk) (i j : Int) : Int := if D.2 4 i = D.2 4 j then 0 else if D.2 0 1 = 0 then D.2 2 (D.2 4 i) else if D.2 0 1 = 1 then D.2 2 (D.2 4 i) + 99 - D.2 3 (D.2 4 j) else if D.2 2 (D.2 4 i) < D.2 3 (D.2 4 j) then D.2 3 (D.2 4 j) - D.2 2 (D.2 4 i) else D.2 2 (D.2 4 i) - D.2 3 (D.2 4 j)
theorem prc_bd (V : Val D) {i j : Int} (h0 : 0 ≤ i) (h1 : i < dp D) (h2 : 0 ≤ j) (h3 : j < dp D) : 0 ≤ prc D i j ∧ prc D i j ≤ 198 := by
  have w := (V.per h0 h1).1
  have a := (V.mem w.1 w.2).1
  have w2 := (V.per h2 h3).1
  have a2 := (V.mem w2.1 w2.2).2
  unfold prc
  split
  · omega
  · split
    · omega
    · split
      · omega
      · split <;> omega
theorem k_priceOf (V : Val D) (B : BokR σ b D) {i j : Int} (h0 : 0 ≤ i) (h1 : i < dp D) (h2 : 0 ≤ j) (h3 : j < dp D) : F_X0_priceOf N b i j σ = some (prc D i j) := by
  have v := V.sz
  have w := (V.per h0 h1).1
  have a := (V.mem w.1 w.2).1
  have w2 := (V.per h2 h3).1
  have a2 := (V.mem w2.1 w2.2).2
  unfold F_X0_priceOf prc
  rw [k_isOne V B h0 h1 h2 h3, inb_in (by omega), inb_in (by rw [(B.2.2.1 i h0 h1).1]; omega), inb_in (by omega), inb_in (by rw [(B.2.2.1 j h2 h3).1]; omega), (B.2.2.1 i h0 h1).1, (B.2.2.1 j h2 h3).1, (B.2.1 _ w.1 w.2).2.1, (B.2.1 _ w2.1 w2.2).2.2, B.1.2.2.2.1]
  show (if (if D.2 4 i = D.2 4 j then (1 : Int) else 0) = 0 then _ else _) = _
  by_cases h : D.2 4 i = D.2 4 j
  · rw [if_pos h, if_pos h, if_neg (by decide)]
  · rw [if_neg h, if_neg h, if_pos rfl]
    split
    · rfl
    · split
      · rw [ja_eq ⟨by omega, by omega⟩, js_eq ⟨by omega, by omega⟩]
      · rw [js_eq ⟨by omega, by omega⟩, jabs_eq (by omega) (by omega)]
        split <;> split <;> (first | rfl | (congr 1; omega))
/-! the ledger -/
def takF (D : Dk) (p : Int) : Int → Int := fun k => if D.2 12 k = p ∨ D.2 13 k = p then D.2 14 k else 0
def takOf (D : Dk) (p : Int) : Int := sumTo (takF D p) (dc D)
def tonF (D : Dk) (i j : Int) : Int → Int := fun k => if D.2 12 k = i ∧ D.2 13 k = j then D.2 14 k else 0
def takOn (D : Dk) (i j : Int) : Int := sumTo (tonF D i j) (dc D)
def rabs (x : Int) : Int := if x < 0 then -x else x
def opn (D : Dk) (p : Int) : Int := rabs (D.2 7 p) - takOf D p
theorem takF_bd (V : Val D) (p : Int) (k : Nat) (hk : k < dc D) : 0 ≤ takF D p k ∧ takF D p k ≤ 99999 := by
  have c := (V.clm (k := k) (by omega) (by omega)).2.2
  unfold takF; split <;> omega
theorem tonF_bd (V : Val D) (i j : Int) (k : Nat) (hk : k < dc D) : 0 ≤ tonF D i j k ∧ tonF D i j k ≤ 99999 := by
  have c := (V.clm (k := k) (by omega) (by omega)).2.2
  unfold tonF; split <;> omega
theorem takOf_bd (V : Val D) (p : Int) : 0 ≤ takOf D p ∧ takOf D p ≤ 2999970 := by
  have v := V.sz
  have := sumTo_bd (f := takF D p) (lo := 0) (hi := 99999) (n := dc D) (fun k hk => takF_bd V p k hk)
  unfold takOf; omega
theorem takOn_bd (V : Val D) (i j : Int) : 0 ≤ takOn D i j ∧ takOn D i j ≤ 2999970 := by
  have v := V.sz
  have := sumTo_bd (f := tonF D i j) (lo := 0) (hi := 99999) (n := dc D) (fun k hk => tonF_bd V i j k hk)
  unfold takOn; omega
theorem k_has (L : LedR σ l D) (m : Int) : F_X5_has N l m σ = some (if 0 ≤ m ∧ m < dc D then 1 else 0) := by
  unfold F_X5_has F_X5_has_J16
  rw [L.1]
  by_cases h1 : m < 0
  · rw [if_pos h1, if_neg (by omega)]
  · rw [if_neg h1]
    by_cases h2 : (dc D : Int) ≤ m
    · rw [if_pos h2, if_neg (by omega)]
    · rw [if_neg h2, if_pos (by omega)]
theorem k_takenOf (hN : BigN N) (V : Val D) (L : LedR σ l D) (p : Int) : F_X5_takenOf N l p σ = some (takOf D p) := by
  have v := V.sz
  unfold F_X5_takenOf takOf
  refine loop_sum (fin := fun k => some k) 99999 (bigN hN) (by omega) (by omega) (by omega) (fun k hk => by have := takF_bd V p k hk; omega) (fun k a nx hk hr ha => ?_) (fun a nx => ?_)
  · show F_X5_takenOf_B4 N nx l p a (k : Int) σ = _
    unfold F_X5_takenOf_B4 F_X5_takenOf_J32 F_X5_takenOf_J41
    obtain ⟨e1, e2, e3⟩ := L.2 k (by omega) (by omega)
    rw [L.1, if_neg (by omega), inb_in (by omega), inb_in (by omega), ja_1 (by omega) (by omega), e1, e2, e3]
    unfold takF at hr ⊢
    by_cases h : D.2 12 k = p
    · rw [if_pos (Or.inl h)] at hr
      rw [if_pos h, if_pos (Or.inl h), ja_eq hr]
    · rw [if_neg h]
      by_cases h2 : D.2 13 k = p
      · rw [if_pos (Or.inr h2)] at hr
        rw [if_pos h2, if_pos (Or.inr h2), ja_eq hr]
      · rw [if_neg h2, if_neg (by simp [h, h2]), Int.add_zero]
  · show F_X5_takenOf_B4 N nx l p a (dc D : Int) σ = _
    unfold F_X5_takenOf_B4
    rw [L.1, if_pos (Int.le_refl _)]
theorem k_takenOn (hN : BigN N) (V : Val D) (L : LedR σ l D) (i j : Int) : F_X5_takenOn N l i j σ = some (takOn D i j) := by
  have v := V.sz
  unfold F_X5_takenOn takOn
  refine loop_sum (fin := fun k => some k) 99999 (bigN hN) (by omega) (by omega) (by omega) (fun k hk => by have := tonF_bd V i j k hk; omega) (fun k a nx hk hr ha => ?_) (fun a nx => ?_)
  · show F_X5_takenOn_B5 N nx l i j a (k : Int) σ = _
    unfold F_X5_takenOn_B5 F_X5_takenOn_J46
    obtain ⟨e1, e2, e3⟩ := L.2 k (by omega) (by omega)
    rw [L.1, if_neg (by omega), inb_in (by omega), ja_1 (by omega) (by omega), e1, e2, e3]
    unfold tonF at hr ⊢
    by_cases h : D.2 12 k = i
    · rw [if_pos h]
      by_cases h2 : D.2 13 k = j
      · rw [if_pos ⟨h, h2⟩] at hr
        rw [if_pos h2, if_pos ⟨h, h2⟩, ja_eq hr]
      · rw [if_neg h2, if_neg (by simp [h2]), Int.add_zero]
    · rw [if_neg h, if_neg (by simp [h]), Int.add_zero]
  · show F_X5_takenOn_B5 N nx l i j a (dc D : Int) σ = _
    unfold F_X5_takenOn_B5
    rw [L.1, if_pos (Int.le_refl _)]
theorem k_touches (hN : BigN N) (V : Val D) (L : LedR σ l D) (p : Int) : F_X5_touches N l p σ = some (if takOf D p ≤ 0 then 0 else 1) := by
  unfold F_X5_touches
  rw [k_takenOf hN V L p]
  show (if takOf D p ≤ 0 then some 0 else some 1) = _
  split <;> rfl
end BOOK
