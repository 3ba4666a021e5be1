/-! lines read by both: a period's -/
section LN5
variable {N : Nat} {c c' c'' m m' m'' : Sto} {b n : Nat} {C : Nat → Int} {E : Dk} {L : Int}
/-- the reference looks for a period in the way -/
theorem m_ways (hN : BigN N) (V : Val E) (R : RdM m E) (h : dp E < 12) {x0 x1 t : Int} (e0 : m.1 98 (48 + 4 * (dp E : Int)) = x0) (e1 : m.1 98 (48 + 4 * (dp E : Int) + 1) = x1) (e9 : m.1 94 9 = t) : loopK (fun q nx117 => F_X12_periodLine_B117 N nx117 (48 + 4 * (dp E : Int)) q m) N 48 = if anyB (fun k => decide (k ≠ (dp E : Int) ∧ E.2 4 k = x0 ∧ E.2 5 k ≤ t ∧ x1 ≤ E.2 6 k)) (dp E) = true then some (0, wrg m 3) else F_X12_periodLine_J183 N (48 + 4 * (dp E : Int)) m := by
  have vz := V.sz
  refine loop_P (N := N) (fun k s => s = 48 + 4 * (k : Int) ∧ ∀ i : Nat, i < k → ¬ (E.2 4 i = x0 ∧ E.2 5 i ≤ t ∧ x1 ≤ E.2 6 i)) (fun r => r = if anyB (fun k => decide (k ≠ (dp E : Int) ∧ E.2 4 k = x0 ∧ E.2 5 k ≤ t ∧ x1 ≤ E.2 6 k)) (dp E) = true then some (0, wrg m 3) else F_X12_periodLine_J183 N (48 + 4 * (dp E : Int)) m) (dp E) (bigN hN) ⟨rfl, fun i hi => absurd hi (Nat.not_lt_zero i)⟩ (fun k s hk hI => ?_)
  obtain ⟨rfl, hI⟩ := hI
  by_cases q : k = dp E
  · refine Or.inr ⟨_, rfl, fun nx => ?_⟩
    show F_X12_periodLine_B117 N nx (48 + 4 * (dp E : Int)) (48 + 4 * (k : Int)) m = _
    unfold F_X12_periodLine_B117
    rw [if_pos (by omega), if_neg]
    rw [anyB_iff]
    rintro ⟨i, i1, i2⟩
    exact hI i (by omega) (of_decide_eq_true i2).2
  · have hk : k < dp E := by omega
    have r := R.2.2.1 k (by omega) (by omega)
    have n1 : ja (48 + 4 * (k : Int)) 1 = 48 + 4 * k + 1 := ja_eq ⟨by omega, by omega⟩
    have n2 : ja (48 + 4 * (k : Int)) 2 = 48 + 4 * k + 2 := ja_eq ⟨by omega, by omega⟩
    have n4 : ja (48 + 4 * (k : Int)) 4 = 48 + 4 * ((k + 1 : Nat) : Int) := by rw [ja_eq ⟨by omega, by omega⟩]; omega
    have n5 : ja (48 + 4 * (dp E : Int)) 1 = 48 + 4 * (dp E : Int) + 1 := ja_eq ⟨by omega, by omega⟩
    by_cases q0 : E.2 4 k = x0 ∧ E.2 5 k ≤ t ∧ x1 ≤ E.2 6 k
    · refine Or.inr ⟨_, rfl, fun nx => ?_⟩
      show F_X12_periodLine_B117 N nx (48 + 4 * (dp E : Int)) (48 + 4 * (k : Int)) m = _
      unfold F_X12_periodLine_B117 F_X12_periodLine_J171
      rw [if_neg (by omega), inb_in (by omega), inb_in (by omega), e0, r.1, if_pos q0.1, n1, inb_in (by omega), e9, r.2.1, if_neg (by omega), n5, inb_in (by omega), n2, inb_in (by omega), r.2.2.1, e1, if_neg (by omega), m_wrong, bind_eta, if_pos]
      rw [anyB_iff]
      exact ⟨k, hk, decide_eq_true ⟨by omega, q0⟩⟩
    · refine Or.inl ⟨hk, _, ⟨rfl, fun i hi => ?_⟩, fun nx => ?_⟩
      · by_cases e : i = k
        · rw [e]; exact q0
        · exact hI i (by omega)
      · show F_X12_periodLine_B117 N nx (48 + 4 * (dp E : Int)) (48 + 4 * (k : Int)) m = _
        unfold F_X12_periodLine_B117 F_X12_periodLine_J177
        rw [if_neg (by omega), inb_in (by omega), inb_in (by omega), e0, r.1, n1, inb_in (by omega), e9, r.2.1, n5, inb_in (by omega), n2, inb_in (by omega), r.2.2.1, e1, n4]
        by_cases z1 : E.2 4 k = x0
        · rw [if_pos z1]
          by_cases z2 : t < E.2 5 k
          · rw [if_pos z2]
          · rw [if_neg z2, if_pos (by omega)]
        · rw [if_neg z1]
theorem n_periodLine (hN : BigN N) (T : TX c m b n C E L) {p : Nat} (hp : p ≤ n) (h1 : c.1 1 3 = p) (h2 : m.1 94 7 = p) (h3 : c.1 1 5 = m.1 94 10) : Two (F_X8_readPeriod N b c) (F_X12_periodLine N m) b c m (GLn b n C L c m) := by
  have V := T.2.2.2.2.1
  have vz := V.sz
  have hb : b = 3 ∨ b = 16 := T.2.2.2.2.2.2.2.2.2.2.2
  have c9 : c.1 b 9 = dp E := T.2.2.1.1.2.1
  have m15 : m.1 94 15 = dp E := T.2.2.2.1.1.2.1
  unfold F_X8_readPeriod F_X12_periodLine
  rw [c9, m15, k_fail, m_wrong, bind_eta, bind_eta]
  by_cases q8 : dp E = 12
  · rw [if_neg (by omega), if_pos (by omega)]
    exact ⟨_, _, Or.inr ⟨rfl, rfl, bad_mk FrC.rf FrM.rf h3⟩⟩
  rw [if_pos (show (dp E : Int) < 12 by omega), if_neg (show ¬ (dp E : Int) = 12 by omega)]
  have i0 : ja 48 (jm 4 (dp E : Int)) = 48 + 4 * dp E := by rw [jm_eq ⟨by omega, by omega⟩, ja_eq ⟨by omega, by omega⟩]
  have i1 : ja (48 + 4 * (dp E : Int)) 1 = 48 + 4 * dp E + 1 := ja_eq ⟨by omega, by omega⟩
  have i2 : ja (48 + 4 * (dp E : Int)) 2 = 48 + 4 * dp E + 2 := ja_eq ⟨by omega, by omega⟩
  have i3 : ja (48 + 4 * (dp E : Int)) 3 = 48 + 4 * dp E + 3 := ja_eq ⟨by omega, by omega⟩
  rw [i0, i1]
  refine (n_member hN T hp h1 h2).bind FrC.rf FrM.rf (fun c1 m1 g => ?_)
  obtain ⟨⟨x0, g1, g2, g3⟩, g4, g5, g6, ⟨p1, g7, g8, g9⟩, g10⟩ := g
  dsimp only
  rw [inb_in (by omega), inb_in (by omega), g2, g3]
  have T1 := T.k g5.k g6.k
  have kc2 : KcT b E c1 (upI c1 (b + 4) (dp E : Int) x0) := ⟨fun y z p q r => upI_ne (by omega), rfl⟩
  have km2 : KmT E m1 (upI m1 98 (48 + 4 * (dp E : Int)) x0) := ⟨fun y z p q r s => upI_ne (by omega), rfl⟩
  have T2 := T1.k kc2 km2
  have fc2 : FrC b c (upI c1 (b + 4) (dp E : Int) x0) := g5.fr.tr kc2.fr
  have cx2 : (upI c1 (b + 4) (dp E : Int) x0).1 (b + 4) (dp E) = x0 := up_same
  have cp2 : (upI c1 (b + 4) (dp E : Int) x0).1 1 3 = p1 := by rw [up_pl (by omega)]; exact g8
  have cq2 : c.1 1 3 ≤ (upI c1 (b + 4) (dp E : Int) x0).1 1 3 := by rw [up_pl (by omega)]; exact g4
  obtain ⟨m3, s', e', k', v', w', d1, d2, d3, d4⟩ := tokB (c := upI c1 (b + 4) (dp E : Int) x0) hN T2.2.1 (p := p1) g7 cp2 (by rw [up_pl (by omega)]; exact g9)
  rw [d1, Option.bind_some]
  have T3 := T2.k KcT.rf d3.k
  have fm3 : FrM m m3 := g6.fr.tr (km2.fr.tr d3.fr)
  have mx3 : m3.1 98 (48 + 4 * (dp E : Int)) = x0 := by rw [d3.1 _ _ (by omega), up_same]
  generalize upI c1 (b + 4) (dp E : Int) x0 = c2 at *
  refine (n_number hN T3 d2 (by omega) (by omega)).bind fc2 fm3 (fun c4 m4 g => ?_)
  obtain ⟨⟨x1, l1, l2, l3⟩, l4, l5, l6, p4, s4, e4, k4, v4, w4, l7⟩ := g
  dsimp only
  rw [inb_in (by omega), l2, l3, up_same, up_same]
  have T4 := T3.k l5.k l6.k
  have kc5 : KcT b E c4 (upI c4 (b + 5) (dp E : Int) x1) := ⟨fun y z p q r => upI_ne (by omega), rfl⟩
  have km5 : KmT E m4 (upI m4 98 (48 + 4 * (dp E : Int) + 1) x1) := ⟨fun y z p q r s => upI_ne (by omega), rfl⟩
  have T5 := T4.k kc5 km5
  have M5 : MB (upI c4 (b + 5) (dp E : Int) x1) (upI m4 98 (48 + 4 * (dp E : Int) + 1) x1) n C p4 s4 e4 k4 v4 w4 := l7.cg (up_pl (by omega)) (fun z _ _ => up_pl (by omega))
  have cx5 : (upI c4 (b + 5) (dp E : Int) x1).1 (b + 4) (dp E) = x0 := by rw [up_pl (by omega), l5.1 _ _ (by omega)]; exact cx2
  have cy5 : (upI c4 (b + 5) (dp E : Int) x1).1 (b + 5) (dp E) = x1 := up_same
  have mx5 : (upI m4 98 (48 + 4 * (dp E : Int) + 1) x1).1 98 (48 + 4 * (dp E : Int)) = x0 := by rw [up_ix (by omega), l6.1 _ _ (by omega)]; exact mx3
  have my5 : (upI m4 98 (48 + 4 * (dp E : Int) + 1) x1).1 98 (48 + 4 * (dp E : Int) + 1) = x1 := up_same
  have fc5 : FrC b c (upI c4 (b + 5) (dp E : Int) x1) := fc2.tr (l5.fr.tr kc5.fr)
  have fm5 : FrM m (upI m4 98 (48 + 4 * (dp E : Int) + 1) x1) := fm3.tr (l6.fr.tr km5.fr)
  have cq5 : c.1 1 3 ≤ (upI c4 (b + 5) (dp E : Int) x1).1 1 3 := by rw [up_pl (by omega)]; omega
  generalize upI c4 (b + 5) (dp E : Int) x1 = c5 at *
  generalize upI m4 98 (48 + 4 * (dp E : Int) + 1) x1 = m5 at *
  -- the last day
  obtain ⟨u1, u2, u3, u4, u5, u6⟩ := M5
  obtain ⟨f1, f2, f3, f4, f5, f6, f7, f8⟩ := tok_f u2
  have k3 := kM_3 f4
  obtain ⟨c6, a1, ⟨a2, a3⟩, a4, a5⟩ := k_num hN T5.1 u2 u1 x1 999
  rw [a1, u5]
  by_cases q3 : k4 = 3
  rotate_left
  · rw [if_neg (show ¬ (k4 = 3 ∨ (k4 = 4 ∧ x1 < 0)) by omega), if_neg (show ¬ kM k4 = 3 by omega), Option.bind_some, if_pos (show (0 : Int) = 0 from rfl), m_wrong, bind_eta]
    exact ⟨_, _, Or.inr ⟨rfl, rfl, bad_mk (fc5.tr a5.fr) fm5 (by rw [a3, u4])⟩⟩
  rw [if_pos (show k4 = 3 ∨ (k4 = 4 ∧ x1 < 0) from Or.inl q3), if_pos (show kM k4 = 3 by omega), m_isIn, Option.bind_some, m_wrong, bind_eta, u6 (by omega)]
  by_cases q4 : x1 ≤ v4 ∧ v4 ≤ 999
  rotate_left
  · rw [if_neg q4, if_neg (show ¬ (x1 ≤ w4 ∧ w4 ≤ 999) by have := f8 (by omega); omega), if_pos (show (0 : Int) = 0 from rfl), Option.bind_some, if_pos (show (0 : Int) = 0 from rfl)]
    exact ⟨_, _, Or.inr ⟨rfl, rfl, bad_mk (fc5.tr a5.fr) fm5 (by rw [a3, u4])⟩⟩
  have ew : w4 = v4 := by have := f8 (by omega); omega
  rw [if_pos q4, if_pos (show x1 ≤ w4 ∧ w4 ≤ 999 by omega), if_neg (show ¬ (1 : Int) = 0 by decide), Option.bind_some, if_neg (show ¬ (1 : Int) = 0 by decide)]
  dsimp only
  rw [a4 (by omega)]
  have T6 := T5.k (c' := c6) (m' := m5) a5.k KmT.rf
  have kc7 : KcT b E c6 (upI c6 (b + 6) (dp E : Int) v4) := ⟨fun y z p q r => upI_ne (by omega), rfl⟩
  have T7 := T6.k kc7 KmT.rf
  have cx7 : (upI c6 (b + 6) (dp E : Int) v4).1 (b + 4) (dp E) = x0 := by rw [up_pl (by omega), a5.1 _ _ (by omega)]; exact cx5
  have cy7 : (upI c6 (b + 6) (dp E : Int) v4).1 (b + 5) (dp E) = x1 := by rw [up_pl (by omega), a5.1 _ _ (by omega)]; exact cy5
  have cz7 : (upI c6 (b + 6) (dp E : Int) v4).1 (b + 6) (dp E) = v4 := up_same
  have c67 : (upI c6 (b + 6) (dp E : Int) v4).1 1 6 = v4 := by rw [up_pl (by omega)]; exact a4 (by omega)
  have cs7 : (upI c6 (b + 6) (dp E : Int) v4).1 1 5 = s4 := by rw [up_pl (by omega)]; exact a3
  have cp7 : (upI c6 (b + 6) (dp E : Int) v4).1 1 3 = e4 := by rw [up_pl (by omega)]; exact a2
  have fc7 : FrC b c (upI c6 (b + 6) (dp E : Int) v4) := fc5.tr (a5.fr.tr kc7.fr)
  generalize upI c6 (b + 6) (dp E : Int) v4 = c7 at *
  rw [cx7, cy7, c67, k_overlaps hN T7.2.2.2.2.1 T7.2.2.1, Option.bind_some, m_ways hN T7.2.2.2.2.1 T7.2.2.2.1 (by omega) mx5 my5 ((u6 (by omega)).trans ew), k_fail, bind_eta]
  by_cases q5 : anyB (fun k => decide (k ≠ (dp E : Int) ∧ E.2 4 k = x0 ∧ E.2 5 k ≤ v4 ∧ x1 ≤ E.2 6 k)) (dp E) = true
  · rw [if_pos q5, if_pos q5, if_neg (show ¬ (1 : Int) = 0 by decide)]
    exact ⟨_, _, Or.inr ⟨rfl, rfl, bad_mk fc7 fm5 (by rw [cs7, u4])⟩⟩
  rw [if_neg q5, if_neg q5, if_pos (show (0 : Int) = 0 from rfl)]
  unfold F_X12_periodLine_J183
  rw [i2, i3, inb_in (by omega), u6 (by omega), ew]
  have km8 : KmT E m5 (upI m5 98 (48 + 4 * (dp E : Int) + 2) v4) := ⟨fun y z p q r s => upI_ne (by omega), rfl⟩
  have T8 := T7.k KcT.rf km8
  obtain ⟨m9, s9, e9, k9, v9, w9, y1, y2, y3, y4⟩ := tokB (c := c7) hN T8.2.1 (p := e4) f3 cp7 (by rw [up_pl (by omega)]; exact u3)
  rw [y1, Option.bind_some]
  have T9 := T8.k KcT.rf y3.k
  have mx9 : m9.1 98 (48 + 4 * (dp E : Int)) = x0 := by rw [y3.1 _ _ (by omega), up_ix (by omega)]; exact mx5
  have my9 : m9.1 98 (48 + 4 * (dp E : Int) + 1) = x1 := by rw [y3.1 _ _ (by omega), up_ix (by omega)]; exact my5
  have mz9 : m9.1 98 (48 + 4 * (dp E : Int) + 2) = v4 := by rw [y3.1 _ _ (by omega), up_same]
  have fm9 : FrM m m9 := fm5.tr (km8.fr.tr y3.fr)
  refine (n_signed hN T9 y2 (by omega) (by omega) (by omega)).bind fc7 fm9 (fun cA mA g' => ?_)
  obtain ⟨⟨x3, r1, r2, r3⟩, r4, r5, r6, p6, s6, e6, k6, v6, w6, r7⟩ := g'
  dsimp only
  have TA := T9.k r5.k r6.k
  have m15A : mA.1 94 15 = dp E := TA.2.2.2.1.1.2.1
  rw [inb_in (by omega), r2, r3, up_pl (by decide), m15A, ja_1 (by omega) (by omega)]
  refine ⟨_, _, Or.inl ⟨rfl, rfl, ⟨addPd E x0 x1 v4 x3, TA.grow (addPd_val V TA.2.2.2.2.2.1 (by omega) g1 ⟨by omega, q4⟩ r1) TA.2.2.2.2.2.1 TA.2.2.2.2.2.2.1 (TA.2.2.1.pd (fun y z p q r => ?_) up_same ?_ ?_ ?_ ?_) (TA.2.2.2.1.pd (fun y z p q r => ?_) up_same ?_ ?_ ?_ ?_) (fun z q => ?_) (fun z => ?_) (fun y z q => ?_)⟩, ?_, ?_, ?_, p6, s6, e6, k6, v6, w6, r7.cg ?_ (fun z _ _ => ?_)⟩⟩
  · rw [upI_ne (by omega), upI_ne (by omega)]
  · rw [up_pl (by omega), up_pl (by omega), r5.1 _ _ (by omega)]; exact cx7
  · rw [up_pl (by omega), up_pl (by omega), r5.1 _ _ (by omega)]; exact cy7
  · rw [up_pl (by omega), up_pl (by omega), r5.1 _ _ (by omega)]; exact cz7
  · rw [up_pl (by omega), up_same]
  · rw [upI_ne (by omega), upI_ne (by omega)]
  · rw [up_pl (by omega), up_ix (by omega), r6.1 _ _ (by omega)]; exact mx9
  · rw [up_pl (by omega), up_ix (by omega), r6.1 _ _ (by omega)]; exact my9
  · rw [up_pl (by omega), up_ix (by omega), r6.1 _ _ (by omega)]; exact mz9
  · rw [up_pl (by omega), up_same]
  · rw [up_pl (by omega), up_pl (by omega)]
  · rw [up_pl (by omega), up_pl (by omega)]
  · rw [upI_ne (by omega), upI_ne (by omega)]
  · rw [up_pl (by omega), up_pl (by omega)]; omega
  · exact fc7.tr (r5.fr.tr ⟨fun y z p q => by rw [upI_ne (by omega), upI_ne (by omega)], rfl⟩)
  · exact fm9.tr (r6.fr.tr ⟨fun y z p q r s t => by rw [upI_ne (by omega), upI_ne (by omega)], rfl⟩)
  · rw [up_pl (by omega), up_pl (by omega)]
  · rw [up_ix (by omega), up_pl (by omega)]
end LN5
