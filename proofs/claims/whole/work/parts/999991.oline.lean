/-! lines read by both: owns, and the settings -/
section LN4
variable {N : Nat} {c c' c'' m m' m'' : Sto} {b n : Nat} {C : Nat → Int} {E : Dk} {L : Int}
theorem n_ownsLine (hN : BigN N) (T : TX c m b n C E L) {p : Nat} (hp : p ≤ n) (h1 : c.1 1 3 = p) (h2 : m.1 94 7 = p) (h3 : c.1 1 5 = m.1 94 10) : Two (F_X8_readOwns N b c) (F_X12_ownsLine N m) b c m (GLn b n C L c m) := by
  have V := T.2.2.2.2.1
  have vz := V.sz
  have hb : b = 3 ∨ b = 16 := T.2.2.2.2.2.2.2.2.2.2.2
  have c8 : c.1 (b + 8) 4 = dn E := T.2.2.1.2.2.2.1
  have m12 : m.1 94 18 = dn E := T.2.2.2.1.1.2.2.1
  have hn16 : dn E ≤ 16 := T.2.2.2.2.2.2.1
  unfold F_X8_readOwns F_X12_ownsLine
  rw [c8, m12, k_fail, m_wrong, bind_eta, bind_eta]
  by_cases q8 : dn E = 16
  · rw [if_neg (by omega), if_pos (by omega)]
    exact ⟨_, _, Or.inr ⟨rfl, rfl, bad_mk FrC.rf FrM.rf h3⟩⟩
  rw [if_pos (show (dn E : Int) < 16 by omega), if_neg (show ¬ (dn E : Int) = 16 by omega)]
  have i0 : ja 64 (jm 4 (dn E : Int)) = 64 + 4 * dn E := by rw [jm_eq ⟨by omega, by omega⟩, ja_eq ⟨by omega, by omega⟩]
  have i1 : ja (64 + 4 * (dn E : Int)) 1 = 64 + 4 * dn E + 1 := ja_eq ⟨by omega, by omega⟩
  have i2 : ja (64 + 4 * (dn E : Int)) 2 = 64 + 4 * dn E + 2 := ja_eq ⟨by omega, by omega⟩
  have i3 : ja (64 + 4 * (dn E : Int)) 3 = 64 + 4 * dn E + 3 := ja_eq ⟨by omega, by omega⟩
  rw [i0, i1, i2, i3]
  refine (n_member hN T hp h1 h2).bind FrC.rf FrM.rf (fun c1 m1 g => ?_)
  obtain ⟨⟨x0, g1, g2, g3⟩, g4, g5, g6, ⟨p1, g7, g8, g9⟩, g10⟩ := g
  dsimp only
  rw [inb_in (by omega), g3]
  have T1 := T.k g5.k g6.k
  have km2 : KmT E m1 (upI m1 99 (64 + 4 * (dn E : Int)) x0) := ⟨fun y z p q r s => upI_ne (by omega), rfl⟩
  have T2 := T1.k KcT.rf km2
  have fm2 : FrM m (upI m1 99 (64 + 4 * (dn E : Int)) x0) := g6.fr.tr km2.fr
  have mx2 : (upI m1 99 (64 + 4 * (dn E : Int)) x0).1 99 (64 + 4 * (dn E : Int)) = x0 := up_same
  have mp2 : (upI m1 99 (64 + 4 * (dn E : Int)) x0).1 94 7 = p1 := by rw [up_pl (by omega)]; exact g9
  generalize upI m1 99 (64 + 4 * (dn E : Int)) x0 = m2 at *
  refine (n_member hN T2 g7 g8 mp2).bind g5.fr fm2 (fun c3 m3 g' => ?_)
  obtain ⟨⟨x1, j1, j2, j3⟩, j4, j5, j6, ⟨p3, j7, j8, j9⟩, j10⟩ := g'
  dsimp only
  have mx3 : m3.1 99 (64 + 4 * (dn E : Int)) = x0 := by rw [j6.1 _ _ (by omega)]; exact mx2
  have T3 := T2.k j5.k j6.k
  rw [mx3, g2, j2, j3, k_fail, m_wrong, bind_eta]
  by_cases q : x0 < x1
  rotate_left
  · rw [if_neg q, if_neg q]
    exact ⟨_, _, Or.inr ⟨rfl, rfl, bad_mk (g5.fr.tr j5.fr) (fm2.tr j6.fr) j10⟩⟩
  rw [if_pos q, if_pos q, inb_in (by omega)]
  have km4 : KmT E m3 (upI m3 99 (64 + 4 * (dn E : Int) + 1) x1) := ⟨fun y z p q r s => upI_ne (by omega), rfl⟩
  have T4 := T3.k KcT.rf km4
  obtain ⟨m5, s', e', k', v', w', d1, d2, d3, d4⟩ := tokB (c := c3) hN T4.2.1 (p := p3) j7 j8 (by rw [up_pl (by omega)]; exact j9)
  rw [d1, Option.bind_some]
  have T5 := T4.k KcT.rf d3.k
  have mx5 : m5.1 99 (64 + 4 * (dn E : Int)) = x0 := by rw [d3.1 _ _ (by omega), up_ix (by omega)]; exact mx3
  have my5 : m5.1 99 (64 + 4 * (dn E : Int) + 1) = x1 := by rw [d3.1 _ _ (by omega), up_same]
  have fc3 : FrC b c c3 := g5.fr.tr j5.fr
  have fm5 : FrM m m5 := fm2.tr (j6.fr.tr (km4.fr.tr d3.fr))
  refine (n_number hN T5 d2 (by omega) (by omega)).bind fc3 fm5 (fun c6 m6 g => ?_)
  obtain ⟨⟨x2, l1, l2, l3⟩, l4, l5, l6, p4, s4, e4, k4, v4, w4, l7⟩ := g
  dsimp only
  rw [inb_in (by omega), l3, l2]
  have T6 := T5.k l5.k l6.k
  have km7 : KmT E m6 (upI m6 99 (64 + 4 * (dn E : Int) + 2) x2) := ⟨fun y z p q r s => upI_ne (by omega), rfl⟩
  have T7 := T6.k KcT.rf km7
  have M7 : MB c6 (upI m6 99 (64 + 4 * (dn E : Int) + 2) x2) n C p4 s4 e4 k4 v4 w4 := l7.cg rfl (fun z _ _ => up_pl (by omega))
  have mx7 : (upI m6 99 (64 + 4 * (dn E : Int) + 2) x2).1 99 (64 + 4 * (dn E : Int)) = x0 := by rw [up_ix (by omega), l6.1 _ _ (by omega)]; exact mx5
  have my7 : (upI m6 99 (64 + 4 * (dn E : Int) + 2) x2).1 99 (64 + 4 * (dn E : Int) + 1) = x1 := by rw [up_ix (by omega), l6.1 _ _ (by omega)]; exact my5
  have mz7 : (upI m6 99 (64 + 4 * (dn E : Int) + 2) x2).1 99 (64 + 4 * (dn E : Int) + 2) = x2 := up_same
  have fc6 : FrC b c c6 := fc3.tr l5.fr
  have fm7 : FrM m (upI m6 99 (64 + 4 * (dn E : Int) + 2) x2) := fm5.tr (l6.fr.tr km7.fr)
  generalize upI m6 99 (64 + 4 * (dn E : Int) + 2) x2 = m7 at *
  refine (n_number hN T7 M7 (by omega) (by omega)).bind fc6 fm7 (fun c8 m8 g' => ?_)
  obtain ⟨⟨x3, r1, r2, r3⟩, r4, r5, r6, p6, s6, e6, k6, v6, w6, r7⟩ := g'
  dsimp only
  have T8 := T7.k r5.k r6.k
  have m188 : m8.1 94 18 = dn E := T8.2.2.2.1.1.2.2.1
  rw [inb_in (by omega), r2, r3, up_pl (by decide), m188, ja_1 (by omega) (by omega)]
  obtain ⟨c9, y1, y2, y3, y4⟩ := k_add (N := N) (a := x0) (b := x1) (p := x2) (d := x3) (show dn E < 24 by omega) T8.2.2.1.2.2.2
  rw [y1, Option.bind_some]
  refine ⟨_, _, Or.inl ⟨rfl, rfl, ⟨addO E x0 x1 x2 x3, T8.grow (addO_val V (by omega) ⟨⟨g1, j1, q⟩, l1, r1⟩) T8.2.2.2.2.2.1 (show dn E + 1 ≤ 16 by omega) (T8.2.2.1.ow (fun y z p q => y3 _ _ (by omega)) y2) (T8.2.2.2.1.ow (fun y z p q r => ?_) up_same ?_ ?_ ?_ ?_) (fun z q => y3 _ _ (by omega)) (fun z => y3 _ _ (by omega)) (fun y z q => ?_)⟩, ?_, ?_, ?_, p6, s6, e6, k6, v6, w6, r7.cg (y3 _ _ (by omega)) (fun z _ _ => ?_)⟩⟩
  · rw [upI_ne (by omega), upI_ne (by omega)]
  · rw [up_pl (by omega), up_ix (by omega), r6.1 _ _ (by omega)]; exact mx7
  · rw [up_pl (by omega), up_ix (by omega), r6.1 _ _ (by omega)]; exact my7
  · rw [up_pl (by omega), up_ix (by omega), r6.1 _ _ (by omega)]; exact mz7
  · rw [up_pl (by omega), up_same]
  · rw [upI_ne (by omega), upI_ne (by omega)]
  · rw [y3 _ _ (by omega)]; omega
  · exact fc6.tr (r5.fr.tr ⟨fun y z p q => y3 _ _ (by omega), y4⟩)
  · exact fm7.tr (r6.fr.tr ⟨fun y z p q r s t => by rw [upI_ne (by omega), upI_ne (by omega)], rfl⟩)
  · rw [up_ix (by omega), up_pl (by omega)]
/-- a setting's number -/
theorem n_set (hN : BigN N) {c1 m1 : Sto} (T : TX c1 m1 b n C E L) {p s e : Nat} {k v w : Int} (M : MB c1 m1 n C p s e k v w) (fc : FrC b c c1) (fm : FrM m m1) (hp : c.1 1 3 ≤ c1.1 1 3) {lo hi z0 z1 j : Int} (h : 0 ≤ lo) (h2 : hi ≤ 99999) (hj : (j = 0 ∧ z0 = 10 ∧ z1 = 4 ∧ lo = 1 ∧ hi = 100) ∨ (j = 1 ∧ z0 = 11 ∧ z1 = 5 ∧ lo = 0 ∧ hi = 2) ∨ (j = 2 ∧ z0 = 13 ∧ z1 = 6 ∧ lo = 0 ∧ hi = 99999) ∨ (j = 3 ∧ z0 = 12 ∧ z1 = 7 ∧ lo = 0 ∧ hi = 1)) {J : Sto → Option (Int × Sto)} (hJ : ∀ τ, J τ = some (1, upI τ 100 z1 (τ.1 94 22))) : Two ((F_X8_expectNumber N lo hi c1).bind (fun q => if q.1 = 0 then some (0, q.2) else some (1, upI q.2 b z0 (q.2.1 1 6)))) ((F_X12_number N lo hi m1).bind (fun q => if q.1 = 0 then some (0, q.2) else J q.2)) b c m (GLn b n C L c m) := by
  have hb : b = 3 ∨ b = 16 := T.2.2.2.2.2.2.2.2.2.2.2
  refine (n_number hN T M h h2).bind fc fm (fun c2 m2 g => ?_)
  obtain ⟨⟨x, l1, l2, l3⟩, l4, l5, l6, p4, s4, e4, k4, v4, w4, l7⟩ := g
  dsimp only
  have T2 := T.k l5.k l6.k
  rw [hJ, l2, l3]
  refine ⟨_, _, Or.inl ⟨rfl, rfl, ⟨setD E j x, T2.grow (setD_val T2.2.2.2.2.1 (by omega)) T2.2.2.2.2.2.1 T2.2.2.2.2.2.2.1 (T2.2.2.1.se (by omega)) (T2.2.2.2.1.se (by omega)) (fun z q => up_pl (by omega)) (fun z => up_pl (by omega)) (fun y z q => up_pl (by omega))⟩, ?_, ?_, ?_, p4, s4, e4, k4, v4, w4, l7.cg (up_pl (by omega)) (fun z _ _ => up_pl (by omega))⟩⟩
  · rw [up_pl (by omega)]; omega
  · exact fc.tr (l5.fr.tr ⟨fun y z p q => upI_ne (by omega), rfl⟩)
  · exact fm.tr (l6.fr.tr ⟨fun y z p q r s t => upI_ne (by omega), rfl⟩)
theorem n_wordLine (hN : BigN N) (T : TX c m b n C E L) {p : Nat} (hp : p ≤ n) (h1 : c.1 1 3 = p) (h2 : m.1 94 7 = p) (h3 : c.1 1 5 = m.1 94 10) {i : Int} (hi : m.1 94 9 = i) (hi3 : 3 ≤ i) (hi6 : i ≤ 6) : Two (F_X8_readSetting N b i c) (F_X12_wordLine N m) b c m (GLn b n C L c m) := by
  have hb : b = 3 ∨ b = 16 := T.2.2.2.2.2.2.2.2.2.2.2
  have t8 : c.1 1 8 = m.1 94 21 := T.2.2.2.2.2.2.2.1
  unfold F_X8_readSetting F_X12_wordLine
  rw [hi, t8, k_fail, m_wrong, bind_eta, bind_eta]
  by_cases q : jand (jshr (m.1 94 21) i) 1 = 1
  · rw [if_pos q, if_pos q]
    exact ⟨_, _, Or.inr ⟨rfl, rfl, bad_mk FrC.rf FrM.rf h3⟩⟩
  rw [if_neg q, if_neg q]
  generalize jor (m.1 94 21) (jshl 1 i) = t
  have T1 : TX (upI c 1 8 t) (upI m 94 21 t) b n C E L := by
    obtain ⟨t1, t2, t3, t7, t11, t12, t13, t14, t15, t16, t17, t18⟩ := T
    refine ⟨t1.cg (up_ix (by decide)) (fun z => up_pl (by decide)), t2.up (by decide), t3.cg (fun a j p q => up_pl (by omega)), ?_, t11, t12, t13, ?_, ?_, ?_, ?_, t18⟩
    · obtain ⟨r1, r2, r3, r4⟩ := t7
      refine ⟨?_, fun k k0 k1 => ?_, fun k k0 k1 => ?_, fun k k0 k1 => ?_⟩
      · rw [up_ix (by decide), up_ix (by decide), up_ix (by decide), up_pl (by decide), up_pl (by decide), up_pl (by decide), up_pl (by decide)]; exact r1
      · rw [up_pl (by decide), up_pl (by decide), up_pl (by decide)]; exact r2 k k0 k1
      · rw [up_pl (by decide), up_pl (by decide), up_pl (by decide), up_pl (by decide)]; exact r3 k k0 k1
      · rw [up_pl (by decide), up_pl (by decide), up_pl (by decide), up_pl (by decide)]; exact r4 k k0 k1
    · rw [up_same, up_same]
    · rw [up_ix (by decide)]; exact t15
    · rw [up_ix (by decide), up_ix (by decide)]; exact t16
    · rw [up_ix (by decide), up_ix (by decide)]; exact t17
  have fc1 : FrC b c (upI c 1 8 t) := ⟨fun y z p q => upI_ne (by omega), rfl⟩
  have fm1 : FrM m (upI m 94 21 t) := ⟨fun y z p q r s t => upI_ne (by omega), rfl⟩
  have cp1 : (upI c 1 8 t).1 1 3 = p := by rw [up_ix (by decide)]; exact h1
  obtain ⟨m2, s', e', k', v', w', d1, d2, d3, d4⟩ := tokB (c := upI c 1 8 t) hN T1.2.1 (p := p) hp cp1 (by rw [up_ix (by decide)]; exact h2)
  rw [d1, Option.bind_some]
  have T2 := T1.k KcT.rf d3.k
  have fm2 := fm1.tr d3.fr
  have cp2 : c.1 1 3 ≤ (upI c 1 8 t).1 1 3 := by rw [cp1, h1]; exact Int.le_refl _
  have J : ∀ z1 : Int, 0 ≤ z1 → z1 < 8 → ∀ τ, F_X12_wordLine_J137 N z1 τ = some (1, upI τ 100 z1 (τ.1 94 22)) := fun z1 y0 y1 τ => by
    unfold F_X12_wordLine_J137
    rw [inb_in (by omega)]
  by_cases q3 : i = 3
  · rw [if_pos q3, if_pos q3]
    exact n_set hN T2 d2 fc1 fm2 cp2 (by omega) (by omega) (Or.inl ⟨rfl, rfl, rfl, rfl, rfl⟩) (fun τ => by unfold F_X12_wordLine_J103; rw [if_pos q3]; exact J 4 (by decide) (by decide) τ)
  rw [if_neg q3, if_neg q3]
  by_cases q4 : i = 4
  · rw [if_pos q4, if_pos q4]
    exact n_set hN T2 d2 fc1 fm2 cp2 (by omega) (by omega) (Or.inr (Or.inl ⟨rfl, rfl, rfl, rfl, rfl⟩)) (fun τ => by unfold F_X12_wordLine_J103; rw [if_neg q3, if_pos q4]; exact J 5 (by decide) (by decide) τ)
  rw [if_neg q4, if_neg q4]
  by_cases q5 : i = 5
  · rw [if_pos q5, if_pos q5]
    exact n_set hN T2 d2 fc1 fm2 cp2 (by omega) (by omega) (Or.inr (Or.inr (Or.inr ⟨rfl, rfl, rfl, rfl, rfl⟩))) (fun τ => by unfold F_X12_wordLine_J103; rw [if_neg q3, if_neg q4, if_pos q5]; exact J 7 (by decide) (by decide) τ)
  rw [if_neg q5, if_neg q5]
  exact n_set hN T2 d2 fc1 fm2 cp2 (by omega) (by omega) (Or.inr (Or.inr (Or.inl ⟨rfl, rfl, rfl, rfl, rfl⟩))) (fun τ => by unfold F_X12_wordLine_J103; rw [if_neg q3, if_neg q4, if_neg q5]; exact J 6 (by decide) (by decide) τ)
end LN4
