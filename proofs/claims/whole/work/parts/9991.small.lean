/-! COUNTS, FAULTS, a MEMBER (the reference) -/
section SML
variable {N : Nat} {σ : Sto} {b : Nat} {D : Dk}
def cgF (D : Dk) (s : Int) : Int → Int := fun k => if sgn (D.2 7 k) = s then 1 else 0
def rCount (D : Dk) (u t w : Int) : Int := if w = 0 then dm D else if w = 1 then dp D else if w = 2 then dn D else if w = 3 then dc D else if w = 4 then D.2 0 0 else if w = 5 then D.2 0 1 else if w = 6 then sumTo (cgF D (-1)) (dp D) else if w = 7 then sumTo (cgF D 1) (dp D) else if w = 8 then u else if w = 9 then t else if w = 10 then D.2 0 3 else -1
theorem x_count (hN : BigN N) (V : Val D) (X : XC σ b D) (w : Int) : F_X11_count N w σ = some (rCount D (σ.1 33 1) (σ.1 1 1) w) := by
  obtain ⟨e8, e9, e10, e11, e12, e13⟩ := X.2.2.1.1
  unfold F_X11_count rCount
  rw [X.at, X.at, X.at, X.at, X.at, X.at, X.at, X.at, e8, e9, e10, e11, e12, X.2.2.1.2.2.2.1, X.2.2.2.1.1, k_countSigned hN V X.2.2.1, k_countSigned hN V X.2.2.1]
  by_cases w0 : w = 0
  · rw [if_pos w0, if_pos w0]
  rw [if_neg w0, if_neg w0]
  by_cases w1 : w = 1
  · rw [if_pos w1, if_pos w1]
  rw [if_neg w1, if_neg w1]
  by_cases w2 : w = 2
  · rw [if_pos w2, if_pos w2]
  rw [if_neg w2, if_neg w2]
  by_cases w3 : w = 3
  · rw [if_pos w3, if_pos w3]
  rw [if_neg w3, if_neg w3]
  by_cases w4 : w = 4
  · rw [if_pos w4, if_pos w4]
  rw [if_neg w4, if_neg w4]
  by_cases w5 : w = 5
  · rw [if_pos w5, if_pos w5]
  rw [if_neg w5, if_neg w5]
  by_cases w6 : w = 6
  · rw [if_pos w6, if_pos w6]; rfl
  rw [if_neg w6, if_neg w6]
  by_cases w7 : w = 7
  · rw [if_pos w7, if_pos w7]; rfl
  rw [if_neg w7, if_neg w7]
  by_cases w8 : w = 8
  · rw [if_pos w8, if_pos w8]
  rw [if_neg w8, if_neg w8]
  by_cases w9 : w = 9
  · rw [if_pos w9, if_pos w9]
  rw [if_neg w9, if_neg w9]
  by_cases w10 : w = 10
  · rw [if_pos w10, if_pos w10]
  rw [if_neg w10, if_neg w10]
theorem m_count (hN : BigN N) (V : Val D) (M : MK σ D) (w : Int) : QM σ D (F_X12_count N w σ) (rCount D (σ.1 94 25) (σ.1 94 1) w) := by
  have vz := V.sz
  obtain ⟨M', m'⟩ := M.up2 V 0
  obtain ⟨e1, e2, e3, e4, e5, e6⟩ := M'.1.1.1
  have lp : ∀ s : Int, (w = 6 ∧ s = -1) ∨ (w = 7 ∧ s = 1) → F_X12_count_J105 N w 0 (upI σ 94 2 0) = some (sumTo (cgF D s) (dp D), upI σ 94 2 0) := fun s hs => by
    unfold F_X12_count_J105
    refine loop_sum (b := fun q nx107 => F_X12_count_B107 N nx107 w q.1 q.2 (upI σ 94 2 0)) (f := cgF D s) (fin := fun a => some (a, upI σ 94 2 0)) 1 (bigN hN) (by omega) (by omega) (by omega) (fun k _ => by unfold cgF; split <;> omega) (fun k a nx hk r1 r2 => ?_) (fun a nx => ?_)
    · show F_X12_count_B107 N nx w a k (upI σ 94 2 0) = _
      unfold F_X12_count_B107 F_X12_count_J144 F_X12_count_J130 F_X12_count_J148 F_X12_count_J144 F_X12_count_J149
      rw [e2, if_neg (by omega), m_result M'.1 V (by omega) (by omega), Option.bind_some, Option.bind_some, ja_1 (k := (k : Int)) (by omega) (by omega), ja0 r2]
      unfold cgF at r1 ⊢
      rcases hs with ⟨rfl, rfl⟩ | ⟨rfl, rfl⟩
      · rw [if_pos rfl]
        by_cases q : D.2 7 (k : Int) < 0
        · have s1 : sgn (D.2 7 (k : Int)) = -1 := by unfold sgn; rw [if_neg (by omega), if_pos q]
          rw [if_pos s1] at r1
          rw [if_pos q, if_pos s1, ja_eq r1]
        · have s1 : ¬ sgn (D.2 7 (k : Int)) = -1 := by unfold sgn; split <;> (try split) <;> omega
          rw [if_neg q, if_neg (by decide), if_neg s1, Int.add_zero]
      · rw [if_neg (by decide), if_pos rfl]
        by_cases q : D.2 7 (k : Int) ≤ 0
        · have s1 : ¬ sgn (D.2 7 (k : Int)) = 1 := by unfold sgn; split <;> (try split) <;> omega
          rw [if_pos q, if_neg s1, Int.add_zero]
        · have s1 : sgn (D.2 7 (k : Int)) = 1 := by unfold sgn; rw [if_neg (by omega), if_neg (by omega)]
          rw [if_pos s1] at r1
          rw [if_neg q, if_pos s1, ja_eq r1]
    · show F_X12_count_B107 N nx w a (dp D : Int) (upI σ 94 2 0) = _
      unfold F_X12_count_B107
      rw [e2, if_pos (Int.le_refl _)]
  have u25 : (upI σ 94 2 0).1 94 25 = σ.1 94 25 := up_ix (by decide)
  have u1 : (upI σ 94 2 0).1 94 1 = σ.1 94 1 := up_ix (by decide)
  unfold F_X12_count rCount
  rw [e1, e2, e3, e4, M'.2.2.2.2, m_of103 M'.1, m_of0 M'.1, u25, u1, inb_in (by omega), inb_in (by omega), inb_in (by omega), Option.bind_some, Option.bind_some]
  by_cases w0 : w = 0
  · rw [if_pos w0, if_pos w0]; exact QM.same V M rfl
  rw [if_neg w0, if_neg w0]
  by_cases w1 : w = 1
  · rw [if_pos w1, if_pos w1]; exact QM.same V M rfl
  rw [if_neg w1, if_neg w1]
  by_cases w2 : w = 2
  · rw [if_pos w2, if_pos w2]; exact QM.same V M rfl
  rw [if_neg w2, if_neg w2]
  by_cases w3 : w = 3
  · rw [if_pos w3, if_pos w3]; exact QM.same V M rfl
  rw [if_neg w3, if_neg w3]
  by_cases w4 : w = 4
  · rw [if_pos w4, if_pos w4]; exact QM.same V M rfl
  rw [if_neg w4, if_neg w4]
  by_cases w5 : w = 5
  · rw [if_pos w5, if_pos w5]; exact QM.same V M rfl
  rw [if_neg w5, if_neg w5]
  by_cases w6 : w = 6
  · rw [if_pos w6, if_pos w6, lp (-1) (Or.inl ⟨w6, rfl⟩)]; exact QM.same V M rfl
  rw [if_neg w6, if_neg w6]
  by_cases w7 : w = 7
  · rw [if_pos w7, if_pos w7, lp 1 (Or.inr ⟨w7, rfl⟩)]; exact QM.same V M rfl
  rw [if_neg w7, if_neg w7]
  by_cases w8 : w = 8
  · rw [if_pos w8, if_pos w8]; exact QM.same V M rfl
  rw [if_neg w8, if_neg w8]
  by_cases w9 : w = 9
  · rw [if_pos w9, if_pos w9]; exact QM.same V M rfl
  rw [if_neg w9, if_neg w9]
  by_cases w10 : w = 10
  · rw [if_pos w10, if_pos w10]; exact QM.same V M rfl
  rw [if_neg w10, if_neg w10]; exact QM.same V M rfl
def rFault (f p w : Int) : Int := if w = 0 then f else if w = 1 then p else -1
theorem x_fault (w : Int) : F_X11_fault N w σ = some (rFault (σ.1 1 9) (σ.1 1 10) w) := by
  unfold F_X11_fault rFault
  by_cases w0 : w = 0
  · rw [if_pos w0, if_pos w0]
  rw [if_neg w0, if_neg w0]
  by_cases w1 : w = 1
  · rw [if_pos w1, if_pos w1]
  rw [if_neg w1, if_neg w1]
theorem m_fault (V : Val D) (M : MK σ D) (w : Int) : QM σ D (F_X12_fault N w σ) (rFault (σ.1 94 4) (σ.1 94 5) w) := by
  have u4 : (upI σ 94 2 0).1 94 4 = σ.1 94 4 := up_ix (by decide)
  have u5 : (upI σ 94 2 0).1 94 5 = σ.1 94 5 := up_ix (by decide)
  unfold F_X12_fault rFault
  rw [u4, u5]
  by_cases w0 : w = 0
  · rw [if_pos w0, if_pos w0]; exact QM.same V M rfl
  rw [if_neg w0, if_neg w0]
  by_cases w1 : w = 1
  · rw [if_pos w1, if_pos w1]; exact QM.same V M rfl
  rw [if_neg w1, if_neg w1]; exact QM.same V M rfl
/-! a MEMBER -/
def rMemT (D : Dk) (m w : Int) : Int := if isM D m then (if 0 ≤ w ∧ w ≤ 2 then 0 else 2) else 1
def rMemV (D : Dk) (m w : Int) : Int := if w = 0 then D.2 2 m else if w = 1 then D.2 3 m else bset (fun k => decide (D.2 4 k = m)) (dp D)
theorem up22 {v w : Int} : upI (upI σ 94 2 v) 94 2 w = upI σ 94 2 w := by
  unfold upI
  congr 1
  funext a j
  show (if a = 94 ∧ j = 2 then w else if a = 94 ∧ j = 2 then v else σ.1 a j) = if a = 94 ∧ j = 2 then w else σ.1 a j
  split <;> rfl
theorem m_member (hN : BigN N) (V : Val D) (M : MK σ D) (m w : Int) : ∃ r σ', F_X12_member N m w σ = some (r, σ') ∧ MK σ' D ∧ MO σ σ' ∧ σ'.1 94 2 = rMemT D m w ∧ (rMemT D m w = 0 → r = rMemV D m w) := by
  have vz := V.sz
  obtain ⟨M', m'⟩ := M.up2 V 0
  unfold F_X12_member F_X12_fails
  rw [m_isMember M'.1, Option.bind_some]
  by_cases h : isM D m
  · rw [if_pos h, if_neg (by decide), m_isIn, Option.bind_some]
    by_cases hw : 0 ≤ w ∧ w ≤ 2
    · have t0 : rMemT D m w = 0 := by unfold rMemT; rw [if_pos h, if_pos hw]
      rw [if_pos hw, if_neg (by decide), t0]
      by_cases h2 : 2 ≤ w
      · rw [if_pos h2]
        have lp : loopK (fun q nx57 => F_X12_member_B57 N nx57 m q.1 q.2 (upI σ 94 2 0)) N (0, 0) = some (bset (fun k => decide (D.2 4 k = m)) (dp D), upI σ 94 2 0) := by
          refine loop_bits (b := fun q nx57 => F_X12_member_B57 N nx57 m q.1 q.2 (upI σ 94 2 0)) (c := fun k => decide (D.2 4 k = m)) (fin := fun a => some (a, upI σ 94 2 0)) (bigN hN) (fun k a nx hk ha => ?_) (fun a nx => ?_)
          · show F_X12_member_B57 N nx m a k (upI σ 94 2 0) = _
            unfold F_X12_member_B57 F_X12_member_J85
            rw [M'.1.1.1.2.1, if_neg (by omega), m_memberOf M'.1 V (by omega) (by omega), Option.bind_some, jor_0 ha, ja_1 (by omega) (by omega)]
            by_cases q : D.2 4 (k : Int) = m
            · rw [if_pos q, if_pos (decide_eq_true q)]
            · rw [if_neg q, if_neg (fun z => q (of_decide_eq_true z))]
          · show F_X12_member_B57 N nx m a (dp D : Int) (upI σ 94 2 0) = _
            unfold F_X12_member_B57
            rw [M'.1.1.1.2.1, if_pos (Int.le_refl _)]
        rw [lp]
        exact ⟨_, _, rfl, M', m', up_same, fun _ => by unfold rMemV; rw [if_neg (by omega), if_neg (by omega)]⟩
      · rw [if_neg h2]
        have T := M'.1.1.2.1 m h.1 h.2
        have ix0 : ja (jm 3 m) 1 = 3 * m + 1 := by rw [jm_eq ⟨by omega, by omega⟩, ja_eq ⟨by omega, by omega⟩]
        have ix : ja (ja (jm 3 m) 1) w = 3 * m + 1 + w := by rw [ix0, ja_eq ⟨by omega, by omega⟩]
        rw [ix, inb_in (by omega)]
        refine ⟨_, _, rfl, M', m', up_same, fun _ => ?_⟩
        unfold rMemV
        by_cases w0 : w = 0
        · rw [if_pos w0, w0, Int.add_zero]; exact T.2.1
        · rw [if_neg w0, if_pos (by omega), show w = 1 by omega, show 3 * m + 1 + 1 = 3 * m + 2 by omega]; exact T.2.2
    · have t0 : rMemT D m w = 2 := by unfold rMemT; rw [if_pos h, if_neg hw]
      rw [if_neg hw, if_pos rfl, t0, up22]
      exact ⟨_, _, rfl, (M.up2 V 2).1, (M.up2 V 2).2, up_same, fun z => absurd z (by decide)⟩
  · have t0 : rMemT D m w = 1 := by unfold rMemT; rw [if_neg h]
    rw [if_neg h, if_pos rfl, t0, up22]
    exact ⟨_, _, rfl, (M.up2 V 1).1, (M.up2 V 1).2, up_same, fun z => absurd z (by decide)⟩
end SML
