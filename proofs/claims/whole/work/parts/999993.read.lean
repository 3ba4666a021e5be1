/-! one line after another, by both -/
section LN6
variable {N : Nat} {c c' c'' m m' m'' : Sto} {b n : Nat} {C : Nat → Int} {E : Dk} {L : Int}
/-- both at one token -/
def MA (c m : Sto) (n : Nat) (C : Nat → Int) (p s e : Nat) (k v w : Int) : Prop := (c.1 1 3 = e ∧ c.1 1 5 = s ∧ c.1 1 4 = k ∧ (1 ≤ k ∧ k ≤ 4 → c.1 1 6 = v)) ∧ TokP C n p s e k v w ∧ m.1 94 7 = e ∧ m.1 94 10 = s ∧ m.1 94 8 = kM k ∧ (1 ≤ k ∧ k ≤ 4 → m.1 94 9 = w)
theorem tokA (hN : BigN N) (B : BX c n C) (B' : BM m n C) {p : Nat} (hp : p ≤ n) (h1 : c.1 1 3 = p) (h2 : m.1 94 7 = p) : ∃ c' m' s e k v w, F_X8_next N c = some c' ∧ F_X12_token N m = some m' ∧ MA c' m' n C p s e k v w ∧ KC0 c c' ∧ KM0 m m' := by
  obtain ⟨s, e, k, v, w, T⟩ := tok_ex C n p hp
  obtain ⟨m', a1, ⟨a2, a3, a4⟩, a5, a6, a7⟩ := m_token hN B' T h2
  obtain ⟨c', d1, ⟨d2, d3, d4⟩, d5, d6, d7⟩ := k_next hN B T h1
  exact ⟨c', m', s, e, k, v, w, d1, a1, ⟨⟨d2, d3, d4, d5⟩, T, a2, a3, a4, a5⟩, ⟨d6, d7⟩, KM0.of a6 a7⟩
theorem TX.ln {L' : Int} (T : TX c m b n C E L) : TX (upI c 1 7 L') m b n C E L' := by
  obtain ⟨t1, t2, t3, t7, t11, t12, t13, t14, t15, t16, t17, t18⟩ := T
  exact ⟨t1.cg (up_ix (by decide)) (fun z => up_pl (by decide)), t2, t3.cg (fun a j p q => up_pl (by omega)), t7, t11, t12, t13, by rw [up_ix (by decide)]; exact t14, up_same, by rw [up_ix (by decide)]; exact t16, by rw [up_ix (by decide)]; exact t17, t18⟩
theorem n_lines (hN : BigN N) (T : TX c m b n C E L) {p s e : Nat} {k v w : Int} (A : MA c m n C p s e k v w) (hk : k = 1) : ∃ oc om, Two oc om b c m (GLn b n C L c m) ∧ F_X8_readLine N b c = oc ∧ F_X12_lineRead N m = om.bind (fun q => F_X12_lineRead_J62 N q.1 q.2) := by
  obtain ⟨⟨a1, a2, a3, a4⟩, a5, a6, a7, a8, a9⟩ := A
  obtain ⟨f1, f2, f3, f4, f5, f6, f7, f8⟩ := tok_f a5
  have k3 := kM_3 f4
  have ev := f6 hk
  have e3 : c.1 1 5 = m.1 94 10 := by rw [a2, a7]
  have w9 : m.1 94 9 = v := by rw [a9 (by omega)]; exact ev.1.symm
  unfold F_X8_readLine F_X12_lineRead
  rw [a3, if_pos hk, a8, if_pos (show kM k = 1 by omega), a4 (by omega), w9, bind_eta, bind_eta, bind_eta, bind_eta]
  by_cases q0 : v = 0
  · rw [if_pos q0, if_pos q0]
    exact ⟨_, _, n_memberLine hN T f3 a1 a6 e3, rfl, rfl⟩
  rw [if_neg q0, if_neg q0]
  by_cases q1 : v = 1
  · rw [if_pos q1, if_pos q1]
    exact ⟨_, _, n_ownsLine hN T f3 a1 a6 e3, rfl, rfl⟩
  rw [if_neg q1, if_neg q1]
  by_cases q2 : v = 2
  · rw [if_pos q2, if_pos q2]
    exact ⟨_, _, n_periodLine hN T f3 a1 a6 e3, rfl, rfl⟩
  rw [if_neg q2, if_neg q2]
  exact ⟨_, _, n_wordLine hN T f3 a1 a6 e3 w9 (by omega) (by omega), rfl, rfl⟩
/-- a line, to its end -/
theorem n_line (hN : BigN N) (T : TX c m b n C E L) (hL : 0 ≤ L ∧ L ≤ 1000) {p s e : Nat} {k v w : Int} (A : MA c m n C p s e k v w) (hk : k ≠ 0) {j : Int} (hj : j < 700) : ∃ c' m', ((∀ nx, F_X8_read_B45 N nx b j c = nx (ja j 1, c')) ∧ F_X12_lineRead N m = some (1, m') ∧ (∃ E', TX c' m' b n C E' (L + 1)) ∧ FrC b c c' ∧ FrM m m' ∧ ∃ p' s' e' k' v' w', MA c' m' n C p' s' e' k' v' w' ∧ s < s') ∨ ((∀ nx, F_X8_read_B45 N nx b j c = some (0, c')) ∧ F_X12_lineRead N m = some (0, m') ∧ Bad b c m c' m') := by
  have A0 := A
  obtain ⟨⟨a1, a2, a3, a4⟩, a5, a6, a7, a8, a9⟩ := A
  obtain ⟨f1, f2, f3, f4, f5, f6, f7, f8⟩ := tok_f a5
  have k3 := kM_3 f4
  have U : ∀ nx, F_X8_read_B45 N nx b j c = (F_X8_readLine N b c).bind (fun q5 => if q5.1 = 0 then (some (0, q5.2)) else ((F_X8_expect N 5 q5.2).bind (fun q7 => if q7.1 = 0 then (some (0, q7.2)) else ((F_X8_next N (upI q7.2 1 7 (ja (q7.2.1 1 7) 1))).bind (fun q9 => nx ((ja j 1), q9)))))) := fun nx => by
    unfold F_X8_read_B45
    rw [if_neg (by omega), a3, if_neg hk]
  by_cases q : k = 1
  rotate_left
  · refine ⟨flt c 1, wrg m 1, Or.inr ⟨fun nx => ?_, ?_, bad_mk FrC.rf FrM.rf (by rw [a2, a7])⟩⟩
    · rw [U]
      unfold F_X8_readLine
      rw [a3, if_neg q, k_fail, bind_eta, Option.bind_some, if_pos (show (0 : Int) = 0 from rfl)]
    · unfold F_X12_lineRead
      rw [a8, if_neg (show ¬ kM k = 1 by omega), m_wrong, bind_eta]
  obtain ⟨oc, om, l1, l2, l3⟩ := n_lines hN T A0 q
  obtain ⟨c1, m1, ⟨g1, g2, g3⟩ | ⟨g1, g2, g3⟩⟩ := l1
  rotate_left
  · refine ⟨c1, m1, Or.inr ⟨fun nx => ?_, ?_, g3⟩⟩
    · rw [U, l2, g1, Option.bind_some, if_pos (show (0 : Int) = 0 from rfl)]
    · rw [l3, g2, Option.bind_some]
      unfold F_X12_lineRead_J62
      rw [if_pos (show (0 : Int) = 0 from rfl)]
  obtain ⟨⟨E1, T1⟩, hp1, fc1, fm1, p1, s1, e1, k1, v1, w1, u1, u2, u3, u4, u5, u6⟩ := g3
  obtain ⟨d1, d2, d3, d4, d5, d6, d7, d8⟩ := tok_f u2
  have kk := kM_3 d4
  obtain ⟨c2, x1, ⟨x2, x3⟩, x4, x5⟩ := k_expect hN T1.1 u2 u1 5
  have J : F_X12_lineRead N m = if kM k1 = 4 then (F_X12_token N m1).bind (fun q4 => some (1, q4)) else some (0, wrg m1 1) := by
    rw [l3, g2, Option.bind_some]
    unfold F_X12_lineRead_J62
    rw [if_neg (show ¬ (1 : Int) = 0 by decide), u5, m_wrong, bind_eta]
  have U2 : ∀ nx, F_X8_read_B45 N nx b j c = (if k1 = 5 then some (1, c2) else some (0, flt c2 1) : Option (Int × Sto)).bind (fun q7 => if q7.1 = 0 then (some (0, q7.2)) else ((F_X8_next N (upI q7.2 1 7 (ja (q7.2.1 1 7) 1))).bind (fun q9 => nx ((ja j 1), q9)))) := fun nx => by
    rw [U, l2, g1, Option.bind_some, if_neg (show ¬ (1 : Int) = 0 by decide), x1]
  by_cases q5 : k1 = 5
  rotate_left
  · refine ⟨flt c2 1, wrg m1 1, Or.inr ⟨fun nx => ?_, ?_, bad_mk (fc1.tr x5.fr) fm1 (by rw [x3, u4])⟩⟩
    · rw [U2, if_neg q5, Option.bind_some, if_pos (show (0 : Int) = 0 from rfl)]
    · rw [J, if_neg (show ¬ kM k1 = 4 by omega)]
  have T2 : TX c2 m1 b n C E1 L := T1.k x5.k KmT.rf
  have T3 : TX (upI c2 1 7 (L + 1)) m1 b n C E1 (L + 1) := T2.ln
  obtain ⟨c4, m4, s4, e4, k4, v4, w4, y1, y2, y3, y4, y5⟩ := tokA hN T3.1 T3.2.1 (p := e1) d3 (by rw [up_ix (by decide)]; exact x2) u3
  refine ⟨c4, m4, Or.inl ⟨fun nx => ?_, ?_, ⟨E1, T3.k y4.k y5.k⟩, ?_, fm1.tr y5.fr, e1, s4, e4, k4, v4, w4, y3, ?_⟩⟩
  · rw [U2, if_pos q5, Option.bind_some, if_neg (show ¬ (1 : Int) = 0 by decide)]
    show (F_X8_next N (upI c2 1 7 (ja (c2.1 1 7) 1))).bind _ = _
    rw [T2.2.2.2.2.2.2.2.2.1, ja_1 (by omega) (by omega), y1, Option.bind_some]
  · rw [J, if_pos (show kM k1 = 4 by omega), y2, Option.bind_some]
  · exact fc1.tr (x5.fr.tr (FrC.tr ⟨fun y z p q => upI_ne (by omega), rfl⟩ y4.fr))
  · have z := (tok_f y3.2.1).1
    have := f5 hk
    have := d5 (by omega)
    omega
/-- all lines -/
theorem n_loop (hN : BigN N) : ∀ (d n1 n2 : Nat) (c m : Sto) (E : Dk) (j : Nat) (p s e : Nat) (k v w : Int), n - s ≤ d → d < n1 → d < n2 → TX c m b n C E j → MA c m n C p s e k v w → j ≤ s → (∃ c' m' E', ∃ L : Int, loopK (fun q nx45 => F_X8_read_B45 N nx45 b q.1 q.2) n1 ((j : Int), c) = some (1, c') ∧ loopK (fun q nx55 => F_X12_text_B55 N nx55 q.1 q.2) n2 ((j : Int), m) = F_X12_text_J77 N L m' ∧ TX c' m' b n C E' L ∧ FrC b c c' ∧ FrM m m') ∨ (∃ c' m', loopK (fun q nx45 => F_X8_read_B45 N nx45 b q.1 q.2) n1 ((j : Int), c) = some (0, c') ∧ loopK (fun q nx55 => F_X12_text_B55 N nx55 q.1 q.2) n2 ((j : Int), m) = some (-1, m') ∧ Bad b c m c' m') := by
  intro d
  induction d with
  | zero =>
    intro n1 n2 c m E j p s e k v w h1 h2 h3 T A hj
    obtain ⟨⟨a1, a2, a3, a4⟩, a5, a6, a7, a8, a9⟩ := A
    obtain ⟨f1, f2, f3, f4, f5, f6, f7, f8⟩ := tok_f a5
    have k3 := kM_3 f4
    have k0 : k = 0 := by
      by_cases z : k = 0
      · exact z
      · have := f5 z; omega
    obtain ⟨n1, rfl⟩ : ∃ t, n1 = t + 1 := ⟨n1 - 1, by omega⟩
    obtain ⟨n2, rfl⟩ : ∃ t, n2 = t + 1 := ⟨n2 - 1, by omega⟩
    refine Or.inl ⟨c, m, E, j, ?_, ?_, T, FrC.rf, FrM.rf⟩
    · show F_X8_read_B45 N _ b (j : Int) c = _
      unfold F_X8_read_B45
      rw [a3, if_pos k0]
      split <;> rfl
    · show F_X12_text_B55 N _ (j : Int) m = _
      unfold F_X12_text_B55
      rw [a8, if_pos (show kM k = 0 by omega)]
  | succ d ih =>
    intro n1 n2 c m E j p s e k v w h1 h2 h3 T A hj
    have A0 := A
    obtain ⟨⟨a1, a2, a3, a4⟩, a5, a6, a7, a8, a9⟩ := A
    obtain ⟨f1, f2, f3, f4, f5, f6, f7, f8⟩ := tok_f a5
    have k3 := kM_3 f4
    have nn := T.1.1
    obtain ⟨n1, rfl⟩ : ∃ t, n1 = t + 1 := ⟨n1 - 1, by omega⟩
    obtain ⟨n2, rfl⟩ : ∃ t, n2 = t + 1 := ⟨n2 - 1, by omega⟩
    by_cases k0 : k = 0
    · refine Or.inl ⟨c, m, E, j, ?_, ?_, T, FrC.rf, FrM.rf⟩
      · show F_X8_read_B45 N _ b (j : Int) c = _
        unfold F_X8_read_B45
        rw [a3, if_pos k0]
        split <;> rfl
      · show F_X12_text_B55 N _ (j : Int) m = _
        unfold F_X12_text_B55
        rw [a8, if_pos (show kM k = 0 by omega)]
    have sn := f5 k0
    have R : ∀ nx, F_X12_text_B55 N nx (j : Int) m = (F_X12_lineRead N m).bind (fun q7 => if q7.1 = 0 then (some ((-1), q7.2)) else (nx ((ja (j : Int) 1), q7.2))) := fun nx => by
      unfold F_X12_text_B55
      rw [a8, if_neg (show ¬ kM k = 0 by omega)]
    obtain ⟨c1, m1, ⟨g1, g2, ⟨E1, g3⟩, g4, g5, p', s', e', k', v', w', g6, g7⟩ | ⟨g1, g2, g3⟩⟩ := n_line (j := (j : Int)) hN T (by omega) A0 k0 (by omega)
    · have ej : ja (j : Int) 1 = ((j + 1 : Nat) : Int) := by rw [ja_1 (by omega) (by omega)]; omega
      have t1 : loopK (fun q nx45 => F_X8_read_B45 N nx45 b q.1 q.2) (n1 + 1) ((j : Int), c) = loopK (fun q nx45 => F_X8_read_B45 N nx45 b q.1 q.2) n1 (((j + 1 : Nat) : Int), c1) := by
        show F_X8_read_B45 N _ b (j : Int) c = _
        rw [g1, ej]
      have t2 : loopK (fun q nx55 => F_X12_text_B55 N nx55 q.1 q.2) (n2 + 1) ((j : Int), m) = loopK (fun q nx55 => F_X12_text_B55 N nx55 q.1 q.2) n2 (((j + 1 : Nat) : Int), m1) := by
        show F_X12_text_B55 N _ (j : Int) m = _
        rw [R, g2, Option.bind_some, if_neg (show ¬ (1 : Int) = 0 by decide), ej]
      rw [t1, t2]
      rcases ih n1 n2 c1 m1 E1 (j + 1) p' s' e' k' v' w' (by omega) (by omega) (by omega) (by rw [show ((j + 1 : Nat) : Int) = (j : Int) + 1 by omega]; exact g3) g6 (by omega) with ⟨c2, m2, E2, L2, i1, i2, i3, i4, i5⟩ | ⟨c2, m2, i1, i2, i3⟩
      · exact Or.inl ⟨c2, m2, E2, L2, i1, i2, i3, g4.tr i4, g5.tr i5⟩
      · exact Or.inr ⟨c2, m2, i1, i2, i3.pre g4 g5⟩
    · refine Or.inr ⟨c1, m1, ?_, ?_, g3⟩
      · show F_X8_read_B45 N _ b (j : Int) c = _
        rw [g1]
      · show F_X12_text_B55 N _ (j : Int) m = _
        rw [R, g2, Option.bind_some, if_pos (show (0 : Int) = 0 from rfl)]
end LN6
