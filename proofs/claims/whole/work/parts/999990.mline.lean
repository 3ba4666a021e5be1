/-! the lines, read by both: a member's -/
section LN3
variable {N : Nat} {c c' c'' m m' m'' : Sto} {b n : Nat} {C : Nat → Int} {E : Dk} {L : Int}
theorem Two.bind {oc om : Option (Int × Sto)} {c1 m1 : Sto} {G G' : Sto → Sto → Prop} (h : Two oc om b c1 m1 G) (hc : FrC b c c1) (hm : FrM m m1) {K K' : Int × Sto → Option (Int × Sto)} (h2 : ∀ c' m', G c' m' → Two (K (1, c')) (K' (1, m')) b c m G') : Two (oc.bind (fun q => if q.1 = 0 then some (0, q.2) else K q)) (om.bind (fun q => if q.1 = 0 then some (0, q.2) else K' q)) b c m G' := by
  obtain ⟨c', m', ⟨h3, h4, h5⟩ | ⟨h3, h4, h5⟩⟩ := h
  · rw [h3, h4, Option.bind_some, Option.bind_some, if_neg (show ¬ (1 : Int) = 0 by decide), if_neg (show ¬ (1 : Int) = 0 by decide)]
    exact h2 c' m' h5
  · rw [h3, h4, Option.bind_some, Option.bind_some, if_pos (show (0 : Int) = 0 from rfl), if_pos (show (0 : Int) = 0 from rfl)]
    exact ⟨c', m', Or.inr ⟨rfl, rfl, h5.pre hc hm⟩⟩
theorem MB.cg {p s e : Nat} {k v w : Int} (h : MB c m n C p s e k v w) (h1 : c'.1 1 3 = c.1 1 3) (h2 : ∀ z, 7 ≤ z → z ≤ 10 → m'.1 94 z = m.1 94 z) : MB c' m' n C p s e k v w := by
  obtain ⟨m1, m2, m3, m4, m5, m6⟩ := h
  exact ⟨by rw [h1]; exact m1, m2, by rw [h2 _ (by omega) (by omega)]; exact m3, by rw [h2 _ (by omega) (by omega)]; exact m4, by rw [h2 _ (by omega) (by omega)]; exact m5, fun q => by rw [h2 _ (by omega) (by omega)]; exact m6 q⟩
/-- a line is read: what is read has grown, and the reference is a token ahead -/
def GLn (b n : Nat) (C : Nat → Int) (L : Int) (c m c' m' : Sto) : Prop := (∃ E, TX c' m' b n C E L) ∧ c.1 1 3 ≤ c'.1 1 3 ∧ FrC b c c' ∧ FrM m m' ∧ ∃ p s e k v w, MB c' m' n C p s e k v w
theorem n_memberLine (hN : BigN N) (T : TX c m b n C E L) {p : Nat} (hp : p ≤ n) (h1 : c.1 1 3 = p) (h2 : m.1 94 7 = p) (h3 : c.1 1 5 = m.1 94 10) : Two (F_X8_readMember N b c) (F_X12_memberLine N m) b c m (GLn b n C L c m) := by
  have V := T.2.2.2.2.1
  have vz := V.sz
  have hb : b = 3 ∨ b = 16 := T.2.2.2.2.2.2.2.2.2.2.2
  have c8 : c.1 b 8 = dm E := T.2.2.1.1.1
  have m12 : m.1 94 12 = dm E := T.2.2.2.1.1.1
  unfold F_X8_readMember F_X12_memberLine
  rw [c8, m12, k_fail, m_wrong, bind_eta, bind_eta]
  by_cases q8 : dm E = 8
  · rw [if_neg (by omega), if_pos (by omega)]
    exact ⟨_, _, Or.inr ⟨rfl, rfl, bad_mk FrC.rf FrM.rf h3⟩⟩
  rw [if_pos (show (dm E : Int) < 8 by omega), if_neg (show ¬ (dm E : Int) = 8 by omega)]
  obtain ⟨m1, s, e, k, v, w, b1, ⟨u1, u2, u3, u4, u5, u6⟩, b3, b4⟩ := tokB (c := c) hN T.2.1 hp h1 h2
  obtain ⟨f1, f2, f3, f4, f5, f6, f7, f8⟩ := tok_f u2
  have k3 := kM_3 f4
  obtain ⟨c1, a1, ⟨a2, a3⟩, a4, a5⟩ := k_expect hN T.1 u2 u1 2
  have T1 : TX c1 m1 b n C E L := T.k a5.k b3.k
  rw [a1, b1, Option.bind_some, u5, m_wrong, bind_eta]
  by_cases q : k = 2
  rotate_left
  · rw [if_neg q, if_neg (show ¬ kM k = 2 by omega), Option.bind_some, if_pos (show (0 : Int) = 0 from rfl)]
    exact ⟨_, _, Or.inr ⟨rfl, rfl, bad_mk a5.fr b3.fr (by rw [a3, u4])⟩⟩
  have m12' : m1.1 94 12 = dm E := T1.2.2.2.1.1.1
  rw [if_pos q, if_pos (show kM k = 2 by omega), Option.bind_some, if_neg (show ¬ (1 : Int) = 0 by decide), a4 (by omega), u6 (by omega), ← f7 q, m12', k_find hN T1.2.2.2.2.1 T1.2.2.1, m_nameAt hN T1.2.2.2.2.1 T1.2.2.2.1, Option.bind_some, Option.bind_some, k_fail, bind_eta]
  dsimp only
  generalize fnd (fun k => decide (E.2 1 k = v)) (dm E) 0 = r
  by_cases q' : r < 0
  rotate_left
  · rw [if_neg q', if_neg q']
    exact ⟨_, _, Or.inr ⟨rfl, rfl, bad_mk a5.fr b3.fr (by rw [a3, u4])⟩⟩
  have i0 : ja 24 (jm 3 (dm E : Int)) = 24 + 3 * dm E := by rw [jm_eq ⟨by omega, by omega⟩, ja_eq ⟨by omega, by omega⟩]
  have i1 : ja (24 + 3 * (dm E : Int)) 1 = 24 + 3 * dm E + 1 := ja_eq ⟨by omega, by omega⟩
  have i2 : ja (24 + 3 * (dm E : Int)) 2 = 24 + 3 * dm E + 2 := ja_eq ⟨by omega, by omega⟩
  rw [if_pos q', if_pos q', inb_in (by omega), i0, inb_in (by omega), i1, i2]
  -- the name is laid down
  have kc2 : KcT b E c1 (upI c1 (b + 1) (dm E : Int) v) := ⟨fun y z p q r => upI_ne (by omega), rfl⟩
  have km2 : KmT E m1 (upI m1 97 (24 + 3 * (dm E : Int)) v) := ⟨fun y z p q r s => upI_ne (by omega), rfl⟩
  have T2 := T1.k kc2 km2
  have p2 : (upI c1 (b + 1) (dm E : Int) v).1 1 3 = e := by rw [up_pl (by omega)]; exact a2
  obtain ⟨m3, s', e', k', v', w', d1, d2, d3, d4⟩ := tokB (c := upI c1 (b + 1) (dm E : Int) v) hN T2.2.1 (p := e) f3 p2 (by rw [up_pl (by omega)]; exact u3)
  rw [d1, Option.bind_some]
  have T3 := T2.k KcT.rf d3.k
  have cv : (upI c1 (b + 1) (dm E : Int) v).1 (b + 1) (dm E) = v := up_same
  have mv : m3.1 97 (24 + 3 * (dm E : Int)) = v := by rw [d3.1 _ _ (by omega), up_same]
  have fc2 : FrC b c (upI c1 (b + 1) (dm E : Int) v) := a5.fr.tr kc2.fr
  have fm3 : FrM m m3 := b3.fr.tr (km2.fr.tr d3.fr)
  have cp2 : c.1 1 3 ≤ (upI c1 (b + 1) (dm E : Int) v).1 1 3 := by rw [p2, h1]; omega
  generalize upI c1 (b + 1) (dm E : Int) v = c2 at *
  refine (n_number hN T3 d2 (by omega) (by omega)).bind fc2 fm3 (fun c4 m4 g => ?_)
  obtain ⟨⟨x1, g1, g2, g3⟩, g4, g5, g6, p4, s4, e4, k4, v4, w4, g7⟩ := g
  show Two ((F_X8_expectNumber N 0 99 (upI c4 (b + 2) (dm E : Int) (c4.1 1 6))).bind _) (inb (24 + 3 * (dm E : Int) + 1) 48 ((F_X12_number N 0 99 (upI m4 97 (24 + 3 * (dm E : Int) + 1) (m4.1 94 22))).bind _)) _ _ _ _
  rw [g2, g3, inb_in (by omega)]
  have T4 := T3.k g5.k g6.k
  have kc5 : KcT b E c4 (upI c4 (b + 2) (dm E : Int) x1) := ⟨fun y z p q r => upI_ne (by omega), rfl⟩
  have km5 : KmT E m4 (upI m4 97 (24 + 3 * (dm E : Int) + 1) x1) := ⟨fun y z p q r s => upI_ne (by omega), rfl⟩
  have T5 := T4.k kc5 km5
  have M5 : MB (upI c4 (b + 2) (dm E : Int) x1) (upI m4 97 (24 + 3 * (dm E : Int) + 1) x1) n C p4 s4 e4 k4 v4 w4 := g7.cg (up_pl (by omega)) (fun z _ _ => up_pl (by omega))
  have cv5 : (upI c4 (b + 2) (dm E : Int) x1).1 (b + 1) (dm E) = v := by rw [up_pl (by omega), g5.1 _ _ (by omega)]; exact cv
  have cx5 : (upI c4 (b + 2) (dm E : Int) x1).1 (b + 2) (dm E) = x1 := up_same
  have mv5 : (upI m4 97 (24 + 3 * (dm E : Int) + 1) x1).1 97 (24 + 3 * (dm E : Int)) = v := by rw [up_ix (by omega), g6.1 _ _ (by omega)]; exact mv
  have mx5 : (upI m4 97 (24 + 3 * (dm E : Int) + 1) x1).1 97 (24 + 3 * (dm E : Int) + 1) = x1 := up_same
  have fc5 : FrC b c (upI c4 (b + 2) (dm E : Int) x1) := fc2.tr (g5.fr.tr kc5.fr)
  have fm5 : FrM m (upI m4 97 (24 + 3 * (dm E : Int) + 1) x1) := fm3.tr (g6.fr.tr km5.fr)
  have cp5 : c.1 1 3 ≤ (upI c4 (b + 2) (dm E : Int) x1).1 1 3 := by rw [up_pl (by omega)]; omega
  generalize upI c4 (b + 2) (dm E : Int) x1 = c5 at *
  generalize upI m4 97 (24 + 3 * (dm E : Int) + 1) x1 = m5 at *
  refine (n_number hN T5 M5 (by omega) (by omega)).bind fc5 fm5 (fun c6 m6 g' => ?_)
  obtain ⟨⟨x2, j1, j2, j3⟩, j4, j5, j6, p6, s6, e6, k6, v6, w6, j7⟩ := g'
  show Two (some (1, upI (upI c6 (b + 3) (dm E : Int) (c6.1 1 6)) b 8 (ja (dm E : Int) 1))) (inb (24 + 3 * (dm E : Int) + 2) 48 (some (1, upI (upI m6 97 (24 + 3 * (dm E : Int) + 2) (m6.1 94 22)) 94 12 (ja ((upI m6 97 (24 + 3 * (dm E : Int) + 2) (m6.1 94 22)).1 94 12) 1)))) _ _ _ _
  have T6 := T5.k j5.k j6.k
  have m126 : m6.1 94 12 = dm E := T6.2.2.2.1.1.1
  rw [j2, j3, inb_in (by omega), up_pl (by decide), m126, ja_1 (by omega) (by omega)]
  refine ⟨_, _, Or.inl ⟨rfl, rfl, ⟨addMb E v x1 x2, T6.grow (addMb_val V (by omega) g1 j1) T6.2.2.2.2.2.1 T6.2.2.2.2.2.2.1 (T6.2.2.1.mb (fun y z p q r => ?_) up_same ?_ ?_ ?_) (T6.2.2.2.1.mb (fun y z p q r => ?_) up_same ?_ ?_ ?_) (fun z q => ?_) (fun z => ?_) (fun y z q => ?_)⟩, ?_, ?_, ?_, p6, s6, e6, k6, v6, w6, j7.cg ?_ (fun z _ _ => ?_)⟩⟩
  · rw [upI_ne (by omega), upI_ne (by omega)]
  · rw [up_pl (by omega), up_pl (by omega), j5.1 _ _ (by omega)]; exact cv5
  · rw [up_pl (by omega), up_pl (by omega), j5.1 _ _ (by omega)]; exact cx5
  · rw [up_pl (by omega), up_same]
  · rw [upI_ne (by omega), upI_ne (by omega)]
  · rw [up_pl (by omega), up_ix (by omega), j6.1 _ _ (by omega)]; exact mv5
  · rw [up_pl (by omega), up_ix (by omega), j6.1 _ _ (by omega)]; exact mx5
  · rw [up_pl (by omega), up_same]
  · rw [up_pl (by omega), up_pl (by omega)]
  · rw [up_pl (by omega), up_pl (by omega)]
  · rw [upI_ne (by omega), upI_ne (by omega)]
  · rw [up_pl (by omega), up_pl (by omega)]; omega
  · exact fc5.tr (j5.fr.tr ⟨fun y z p q => by rw [upI_ne (by omega), upI_ne (by omega)], rfl⟩)
  · exact fm5.tr (j6.fr.tr ⟨fun y z p q r s t => by rw [upI_ne (by omega), upI_ne (by omega)], rfl⟩)
  · rw [up_pl (by omega), up_pl (by omega)]
  · rw [up_ix (by omega), up_pl (by omega)]
end LN3
