/-! THE REFERENCE: what it reads, percents, shares, who is RELATED -/
section MOD
variable {N : Nat} {D : Dk} {σ : Sto}
theorem m_ofr {k0 k : Int} (hb : k0 = 0 ∨ k0 = 1) (h24 : σ.1 94 24 = k0) (h0 : 0 ≤ k) (h1 : k < 200) : F_X12_of N k σ = some (σ.1 101 (200 * k0 + k)) := by
  unfold F_X12_of
  have e : ja (jm 200 k0) k = 200 * k0 + k := by rw [jm_eq ⟨by omega, by omega⟩, ja_eq ⟨by omega, by omega⟩]
  rw [h24, e, inb_in (by omega)]
theorem m_of0 (M : ModR σ D) : F_X12_of N 0 σ = some (dc D : Int) := by
  obtain ⟨T, k0, hb, h24, K⟩ := M
  rw [m_ofr hb h24 (by omega) (by omega), Int.add_zero, K.1.1]
theorem m_of103 (M : ModR σ D) : F_X12_of N 103 σ = some (dn D : Int) := by
  obtain ⟨T, k0, hb, h24, K⟩ := M
  rw [m_ofr hb h24 (by omega) (by omega), K.1.2]
theorem i3 {k : Int} (h0 : 0 ≤ k) (h1 : k < 40) : ja 1 (jm 3 k) = 1 + 3 * k := by rw [jm_eq ⟨by omega, by omega⟩, ja_eq ⟨by omega, by omega⟩]
theorem i4 {k : Int} (h0 : 0 ≤ k) (h1 : k < 40) : ja 104 (jm 4 k) = 104 + 4 * k := by rw [jm_eq ⟨by omega, by omega⟩, ja_eq ⟨by omega, by omega⟩]
theorem m_ofc (M : ModR σ D) (V : Val D) {k : Int} (h0 : 0 ≤ k) (h1 : k < dc D) : F_X12_of N (ja 1 (jm 3 k)) σ = some (D.2 12 k) ∧ F_X12_of N (ja (ja 1 (jm 3 k)) 1) σ = some (D.2 13 k) ∧ F_X12_of N (ja (ja 1 (jm 3 k)) 2) σ = some (D.2 14 k) := by
  have v := V.sz
  obtain ⟨T, k0, hb, h24, K⟩ := M
  obtain ⟨e1, e2, e3⟩ := K.2.1 k h0 h1
  rw [i3 h0 (by omega), ja_eq (a := 1 + 3 * k) (b := 1) ⟨by omega, by omega⟩, ja_eq (a := 1 + 3 * k) (b := 2) ⟨by omega, by omega⟩, m_ofr hb h24 (by omega) (by omega), m_ofr hb h24 (by omega) (by omega), m_ofr hb h24 (by omega) (by omega), e1, e2, e3]
  exact ⟨rfl, rfl, rfl⟩
theorem m_ofo (M : ModR σ D) (V : Val D) {k : Int} (h0 : 0 ≤ k) (h1 : k < dn D) : F_X12_of N (ja 104 (jm 4 k)) σ = some (D.2 8 k) ∧ F_X12_of N (ja (ja 104 (jm 4 k)) 1) σ = some (D.2 9 k) ∧ F_X12_of N (ja (ja 104 (jm 4 k)) 2) σ = some (D.2 10 k) ∧ F_X12_of N (ja (ja 104 (jm 4 k)) 3) σ = some (D.2 11 k) := by
  have v := V.sz
  obtain ⟨T, k0, hb, h24, K⟩ := M
  obtain ⟨e1, e2, e3, e4⟩ := K.2.2.2 k h0 h1
  rw [i4 h0 (by omega), ja_eq (a := 104 + 4 * k) (b := 1) ⟨by omega, by omega⟩, ja_eq (a := 104 + 4 * k) (b := 2) ⟨by omega, by omega⟩, ja_eq (a := 104 + 4 * k) (b := 3) ⟨by omega, by omega⟩, m_ofr hb h24 (by omega) (by omega), m_ofr hb h24 (by omega) (by omega), m_ofr hb h24 (by omega) (by omega), m_ofr hb h24 (by omega) (by omega), e1, e2, e3, e4]
  exact ⟨rfl, rfl, rfl, rfl⟩
theorem m_result (M : ModR σ D) (V : Val D) {p : Int} (h0 : 0 ≤ p) (h1 : p < dp D) : F_X12_result N p σ = some (D.2 7 p) := by
  have v := V.sz
  obtain ⟨T, k0, hb, h24, K⟩ := M
  unfold F_X12_result
  rw [ja_eq (a := 91) (b := p) ⟨by omega, by omega⟩, m_ofr hb h24 (by omega) (by omega), K.2.2.1 p h0 h1]; rfl
theorem m_isMember (M : ModR σ D) (m : Int) : F_X12_isMember N m σ = some (if 0 ≤ m ∧ m < dm D then 1 else 0) := by
  unfold F_X12_isMember F_X12_isMember_J16
  rw [M.1.1.1]
  by_cases h1 : m < 0
  · rw [if_pos h1, if_neg (by omega)]
  · rw [if_neg h1]
    by_cases h2 : (dm D : Int) ≤ m
    · rw [if_pos h2, if_neg (by omega)]
    · rw [if_neg h2, if_pos (by omega)]
theorem m_isPeriod (M : ModR σ D) (m : Int) : F_X12_isPeriod N m σ = some (if 0 ≤ m ∧ m < dp D then 1 else 0) := by
  unfold F_X12_isPeriod F_X12_isPeriod_J16
  rw [M.1.1.2.1]
  by_cases h1 : m < 0
  · rw [if_pos h1, if_neg (by omega)]
  · rw [if_neg h1]
    by_cases h2 : (dp D : Int) ≤ m
    · rw [if_pos h2, if_neg (by omega)]
    · rw [if_neg h2, if_pos (by omega)]
theorem m_isDay (d : Int) : F_X12_isDay N d σ = some (if 0 ≤ d ∧ d ≤ 999 then 1 else 0) := by
  unfold F_X12_isDay F_X12_isDay_J15
  by_cases h1 : d < 0
  · rw [if_pos h1, if_neg (by omega)]
  · rw [if_neg h1]
    by_cases h2 : (1000 : Int) ≤ d
    · rw [if_pos h2, if_neg (by omega)]
    · rw [if_neg h2, if_pos (by omega)]
theorem m_isIn (x lo hi : Int) : F_X12_isIn N x lo hi σ = some (if lo ≤ x ∧ x ≤ hi then 1 else 0) := by
  unfold F_X12_isIn F_X12_isIn_J14
  by_cases h1 : x < lo
  · rw [if_pos h1, if_neg (by omega)]
  · rw [if_neg h1]
    by_cases h2 : hi < x
    · rw [if_pos h2, if_neg (by omega)]
    · rw [if_neg h2, if_pos (by omega)]
theorem m_memberOf (M : ModR σ D) (V : Val D) {p : Int} (h0 : 0 ≤ p) (h1 : p < dp D) : F_X12_memberOf N p σ = some (D.2 4 p) := by
  have v := V.sz
  unfold F_X12_memberOf
  rw [jm_eq ⟨by omega, by omega⟩, inb_in (by omega), (M.1.2.2 p h0 h1).1]
theorem m_firstDay (M : ModR σ D) (V : Val D) {p : Int} (h0 : 0 ≤ p) (h1 : p < dp D) : F_X12_firstDay N p σ = some (D.2 5 p) := by
  have v := V.sz
  have e : ja (jm 4 p) 1 = 4 * p + 1 := by rw [jm_eq ⟨by omega, by omega⟩, ja_eq ⟨by omega, by omega⟩]
  have h := (M.1.2.2 p h0 h1).2.1
  unfold F_X12_firstDay
  by_cases q : p = σ.1 94 31
  · rw [if_pos q] at h
    rw [if_pos q, h]
  · rw [if_neg q] at h
    rw [if_neg q, e, inb_in (by omega), h]
theorem m_lastDay (M : ModR σ D) (V : Val D) {p : Int} (h0 : 0 ≤ p) (h1 : p < dp D) : F_X12_lastDay N p σ = some (D.2 6 p) := by
  have v := V.sz
  have e : ja (jm 4 p) 2 = 4 * p + 2 := by rw [jm_eq ⟨by omega, by omega⟩, ja_eq ⟨by omega, by omega⟩]
  unfold F_X12_lastDay
  rw [e, inb_in (by omega), (M.1.2.2 p h0 h1).2.2]
theorem m_isCarry (M : ModR σ D) (V : Val D) {i j : Int} (h0 : 0 ≤ i) (h1 : i < dp D) (h2 : 0 ≤ j) (h3 : j < dp D) : F_X12_isCarry N i j σ = some (if D.2 4 i = D.2 4 j then 1 else 0) := by
  unfold F_X12_isCarry
  rw [m_memberOf M V h0 h1, m_memberOf M V h2 h3]
  show (if D.2 4 i = D.2 4 j then some 1 else some 0) = _
  split <;> rfl
theorem m_priceOf (M : ModR σ D) (V : Val D) {i j : Int} (h0 : 0 ≤ i) (h1 : i < dp D) (h2 : 0 ≤ j) (h3 : j < dp D) : F_X12_priceOf N i j σ = some (prc D i j) := by
  have v := V.sz
  have w := (V.per h0 h1).1
  have a := (V.mem w.1 w.2).1
  have w2 := (V.per h2 h3).1
  have a2 := (V.mem w2.1 w2.2).2
  have e1 : ja (jm 3 (D.2 4 i)) 1 = 3 * D.2 4 i + 1 := by rw [jm_eq ⟨by omega, by omega⟩, ja_eq ⟨by omega, by omega⟩]
  have e2 : ja (jm 3 (D.2 4 j)) 2 = 3 * D.2 4 j + 2 := by rw [jm_eq ⟨by omega, by omega⟩, ja_eq ⟨by omega, by omega⟩]
  unfold F_X12_priceOf prc
  rw [m_isCarry M V h0 h1 h2 h3, m_memberOf M V h0 h1, m_memberOf M V h2 h3]
  show (if (if D.2 4 i = D.2 4 j then (1 : Int) else 0) = 0 then (inb (ja (jm 3 (D.2 4 i)) 1) 48 (inb (ja (jm 3 (D.2 4 j)) 2) 48 _)) else _) = _
  rw [e1, e2, (M.1.2.1 _ w.1 w.2).2.1, (M.1.2.1 _ w2.1 w2.2).2.2, M.1.1.2.2.2.1]
  by_cases h : D.2 4 i = D.2 4 j
  · rw [if_pos h, if_pos h, if_neg (by decide)]
  · rw [if_neg h, if_neg h, if_pos rfl, inb_in (by omega), inb_in (by omega), inb_in (by omega)]
    split
    · rfl
    · split
      · rw [ja_eq ⟨by omega, by omega⟩, js_eq ⟨by omega, by omega⟩]
      · rw [js_eq ⟨by omega, by omega⟩, js_eq ⟨by omega, by omega⟩]
        split <;> split <;> (first | rfl | omega)
theorem m_percentOf (hN : BigN N) (M : ModR σ D) (V : Val D) (a b day : Int) : F_X12_percentOf N a b day σ = some (pct D day a b) := by
  have v := V.sz
  unfold F_X12_percentOf
  refine Exists.elim (loop_A (b := fun q nx => F_X12_percentOf_B6 N nx a b day q.1 q.2 σ) (fin := fun s => F_X12_percentOf_J102 N s.1 σ) (N := N) (s0 := (((-1 : Int)), (0 : Int))) (fun k s => s.2 = k ∧ ((s.1 = -1 ∧ pctK D a b day k = (-1, 0)) ∨ (0 ≤ s.1 ∧ s.1 < k ∧ pctK D a b day k = (D.2 11 s.1, D.2 10 s.1)))) (dn D) (bigN hN) ⟨rfl, Or.inl ⟨rfl, rfl⟩⟩ (fun k s hk hI => ?_) (fun s hI nx => ?_)) (fun s hs => ?_)
  rotate_right
  · obtain ⟨⟨j1, j2⟩, hx⟩ := hs
    rw [hx]
    unfold F_X12_percentOf_J102 pct
    rcases j2 with ⟨q1, q2⟩ | ⟨q1, q2, q3⟩
    · rw [q1, q2, if_neg (by decide)]
    · rw [q3, if_pos q1, (m_ofo M V q1 q2).2.2.1]; rfl
  · obtain ⟨u, c⟩ := s
    obtain ⟨rfl, i2⟩ := hI
    obtain ⟨o1, o2, o3, o4⟩ := m_ofo (N := N) M V (k := k) (by omega) (by omega)
    have w := V.own (k := k) (by omega) (by omega)
    have step : pctK D a b day (k + 1) = if D.2 8 k = a ∧ D.2 9 k = b ∧ D.2 11 k ≤ day ∧ (pctK D a b day k).1 ≤ D.2 11 k then (D.2 11 k, D.2 10 k) else pctK D a b day k := rfl
    have stay : ¬ (D.2 8 k = a ∧ D.2 9 k = b ∧ D.2 11 k ≤ day ∧ (pctK D a b day k).1 ≤ D.2 11 k) → ((u = -1 ∧ pctK D a b day (k + 1) = (-1, 0)) ∨ (0 ≤ u ∧ u < (k + 1 : Nat) ∧ pctK D a b day (k + 1) = (D.2 11 u, D.2 10 u))) := by
      intro h
      rw [step, if_neg h]
      rcases i2 with q | ⟨q1, q2, q3⟩
      · exact Or.inl q
      · exact Or.inr ⟨q1, by omega, q3⟩
    have unf : ∀ nx, F_X12_percentOf_B6 N nx a b day u k σ = if D.2 8 k = a then (if D.2 9 k = b then (if D.2 11 k ≤ day then (if u < 0 then F_X12_percentOf_J92 N nx a b day k σ else ((F_X12_of N (ja (ja 104 (jm 4 u)) 3) σ).bind (fun q13 => if D.2 11 k < q13 then F_X12_percentOf_J96 N nx a b day u k σ else F_X12_percentOf_J92 N nx a b day k σ))) else F_X12_percentOf_J96 N nx a b day u k σ) else F_X12_percentOf_J96 N nx a b day u k σ) else F_X12_percentOf_J96 N nx a b day u k σ := by
      intro nx
      unfold F_X12_percentOf_B6
      rw [m_of103 M, o1, o2, o4]
      show (if (dn D : Int) ≤ k then _ else _) = _
      rw [if_neg (by omega)]
      rfl
    by_cases c1 : D.2 8 k = a ∧ D.2 9 k = b ∧ D.2 11 k ≤ day
    · obtain ⟨p1, p2, p3⟩ := c1
      rcases i2 with ⟨q1, q2⟩ | ⟨q1, q2, q3⟩
      · refine ⟨((k : Int), (k : Int) + 1), ⟨by show (k : Int) + 1 = _; omega, Or.inr ⟨by show (0 : Int) ≤ k; omega, by show (k : Int) < (k + 1 : Nat); omega, ?_⟩⟩, fun nx => ?_⟩
        · rw [step, if_pos ⟨p1, p2, p3, by rw [q2]; show -1 ≤ D.2 11 k; omega⟩]
        · show F_X12_percentOf_B6 N nx a b day u k σ = _
          rw [unf nx, if_pos p1, if_pos p2, if_pos p3, if_pos (by omega)]
          unfold F_X12_percentOf_J92 F_X12_percentOf_J96
          rw [ja_1 (by omega) (by omega)]
      · have o5 := (m_ofo (N := N) M V (k := u) q1 (by omega)).2.2.2
        by_cases c2 : D.2 11 k < D.2 11 u
        · refine ⟨(u, (k : Int) + 1), ⟨by show (k : Int) + 1 = _; omega, stay (by rw [q3]; show ¬ (_ ∧ _ ∧ _ ∧ D.2 11 u ≤ _); omega)⟩, fun nx => ?_⟩
          show F_X12_percentOf_B6 N nx a b day u k σ = _
          rw [unf nx, if_pos p1, if_pos p2, if_pos p3, if_neg (by omega), o5]
          show (if D.2 11 k < D.2 11 u then _ else _) = _
          rw [if_pos c2]
          unfold F_X12_percentOf_J96
          rw [ja_1 (by omega) (by omega)]
        · refine ⟨((k : Int), (k : Int) + 1), ⟨by show (k : Int) + 1 = _; omega, Or.inr ⟨by show (0 : Int) ≤ k; omega, by show (k : Int) < (k + 1 : Nat); omega, ?_⟩⟩, fun nx => ?_⟩
          · rw [step, if_pos ⟨p1, p2, p3, by rw [q3]; show D.2 11 u ≤ D.2 11 k; omega⟩]
          · show F_X12_percentOf_B6 N nx a b day u k σ = _
            rw [unf nx, if_pos p1, if_pos p2, if_pos p3, if_neg (by omega), o5]
            show (if D.2 11 k < D.2 11 u then _ else _) = _
            rw [if_neg c2]
            unfold F_X12_percentOf_J92 F_X12_percentOf_J96
            rw [ja_1 (by omega) (by omega)]
    · refine ⟨(u, (k : Int) + 1), ⟨by show (k : Int) + 1 = _; omega, stay (fun h => c1 ⟨h.1, h.2.1, h.2.2.1⟩)⟩, fun nx => ?_⟩
      show F_X12_percentOf_B6 N nx a b day u k σ = _
      rw [unf nx]
      have fin : F_X12_percentOf_J96 N nx a b day u k σ = nx (u, (k : Int) + 1) := by
        unfold F_X12_percentOf_J96
        rw [ja_1 (by omega) (by omega)]
      by_cases p1 : D.2 8 k = a
      · rw [if_pos p1]
        by_cases p2 : D.2 9 k = b
        · rw [if_pos p2, if_neg (fun p3 => c1 ⟨p1, p2, p3⟩), fin]
        · rw [if_neg p2, fin]
      · rw [if_neg p1, fin]
  · obtain ⟨u, c⟩ := s
    obtain ⟨rfl, i2⟩ := hI
    show F_X12_percentOf_B6 N nx a b day u (dn D : Int) σ = _
    unfold F_X12_percentOf_B6
    rw [m_of103 M]
    show (if (dn D : Int) ≤ (dn D : Int) then _ else _) = _
    rw [if_pos (Int.le_refl _)]
def ShrM (σ : Sto) (D : Dk) (day : Int) : Prop := ∀ a b : Int, 0 ≤ a → a < dm D → 0 ≤ b → b < dm D → fb (σ.2 102 (8 * a + b)) = shr (pct D day) a b
theorem m_laysShares (hN : BigN N) (M : ModR σ D) (V : Val D) (day : Int) : ∃ σ', F_X12_laysShares N day σ = some σ' ∧ σ'.1 = σ.1 ∧ ShrM σ' D day := by
  have v := V.sz
  unfold F_X12_laysShares
  refine Exists.elim (loop_A (b := fun q nx => F_X12_laysShares_B2 N nx day q.1 q.2) (fin := fun s => some s.2) (N := N) (s0 := ((0 : Int), σ)) (fun k s => s.1 = k ∧ s.2.1 = σ.1 ∧ ∀ a b : Int, 0 ≤ a → a < k → 0 ≤ b → b < dm D → fb (s.2.2 102 (8 * a + b)) = shr (pct D day) a b) (dm D) (bigN hN) ⟨rfl, rfl, fun a b x y => by omega⟩ (fun k s hk hI => ?_) (fun s hI nx => ?_)) (fun s hs => ?_)
  rotate_right
  · obtain ⟨⟨j1, j2, j3⟩, hx⟩ := hs
    exact ⟨s.2, hx, j2, fun a b x y z w => j3 a b x (by omega) z w⟩
  · obtain ⟨a, τ⟩ := s
    obtain ⟨rfl, i2, i3⟩ := hI
    have Mτ : ∀ τ' : Sto, τ'.1 = σ.1 → ModR τ' D := fun τ' h => M.cg V (fun j _ => by rw [h]) (fun j => by rw [h]) (fun j => by rw [h]) (fun j => by rw [h]) (fun j => by rw [h])
    refine Exists.elim (loop_X (b := fun x q nx => F_X12_laysShares_B12 N x nx day (k : Int) q.1 q.2) (fin := fun x s => x ((k : Int) + 1, s.2)) (N := N) (s0 := ((0 : Int), τ)) (fun i s => s.1 = i ∧ s.2.1 = σ.1 ∧ (∀ a b : Int, 0 ≤ a → a < k → 0 ≤ b → b < dm D → fb (s.2.2 102 (8 * a + b)) = shr (pct D day) a b) ∧ ∀ b : Int, 0 ≤ b → b < i → fb (s.2.2 102 (8 * k + b)) = shr (pct D day) k b) (dm D) (bigN hN) ⟨rfl, i2, i3, fun b x y => by omega⟩ (fun i s hi hI => ?_) (fun s hI x nx => ?_)) (fun s hs => ?_)
    rotate_right
    · obtain ⟨⟨l1, l2, l3, l4⟩, hx⟩ := hs
      refine ⟨((k : Int) + 1, s.2), ⟨by show (k : Int) + 1 = _; omega, l2, fun a b x y z w => ?_⟩, fun nx => ?_⟩
      · by_cases e : a = k
        · subst e; exact l4 b z (by omega)
        · exact l3 a b x (by omega) z w
      · show F_X12_laysShares_B2 N nx day (k : Int) τ = _
        unfold F_X12_laysShares_B2
        rw [i2, M.1.1.1, if_neg (by omega)]
        exact hx nx
    · obtain ⟨b, τ'⟩ := s
      obtain ⟨rfl, l2, l3, l4⟩ := hI
      have M' := Mτ τ' l2
      have ix : ja (jm 8 (k : Int)) (i : Int) = 8 * k + i := ix8' (by omega) (by omega) (by omega) (by omega)
      -- the sum, whatever comes behind
      have key : ∃ u : UInt32, u = shr (pct D day) k i ∧ ∀ x nx, (if (k : Int) = i then (F_X12_laysShares_J30 N x nx day k i FP.fconst1 τ') else (F_X12_laysShares_J30 N x nx day k i FP.fconst0 τ')) = F_X12_laysShares_J77 N x nx day k i u τ' := by
        by_cases e : (k : Int) = i
        · refine ⟨FP.fconst1, by rw [← e, shr_self], fun x nx => ?_⟩
          rw [if_pos e]
          unfold F_X12_laysShares_J30
          refine loopK_for (s := fun _ => (FP.fconst1, (k : Int))) 0 (bigN hN) (fun j hj => by omega) (fun nx' => ?_)
          show F_X12_laysShares_B35 N x nx nx' day k i FP.fconst1 k τ' = _
          unfold F_X12_laysShares_B35
          rw [if_pos (by omega)]
        · rcases Int.lt_or_gt_of_ne e with e | e
          · refine Exists.elim (loop_X (X := ((Int × Sto) → Option Sto) × ((Int × Sto) → Option Sto)) (b := fun x q nx => F_X12_laysShares_B35 N x.1 x.2 nx day (k : Int) (i : Int) q.1 q.2 τ') (fin := fun x s => F_X12_laysShares_J77 N x.1 x.2 day k i s.1 τ') (N := N) (s0 := (FP.fconst0, (k : Int))) (fun j s => s.1 = fsum (fun c => FP.fmul (shr (pct D day) k c) (ffr (pct D day c i))) k j ∧ s.2 = (k : Int) + j) (i - k) (bigN hN) ⟨rfl, by show (k : Int) = (k : Int) + ((0 : Nat) : Int); omega⟩ (fun j s hj hI => ?_) (fun s hI x nx => ?_)) (fun s hs => ?_)
            rotate_right
            · obtain ⟨⟨r1, r2⟩, hx⟩ := hs
              refine ⟨s.1, ?_, fun x nx => ?_⟩
              · rw [shr_step e, show ((i : Int) - k).toNat = i - k by omega]; exact r1
              · rw [if_neg (by omega)]
                exact hx (x, nx)
            · obtain ⟨u, c⟩ := s
              obtain ⟨rfl, rfl⟩ := hI
              have e1 : ja (jm 8 (k : Int)) ((k : Int) + j) = 8 * k + ((k : Int) + j) := ix8' (by omega) (by omega) (by omega) (by omega)
              have e4 := l4 ((k : Int) + j) (by omega) (by omega)
              have pb := pct_bd V day
              refine ⟨(fsum (fun c => FP.fmul (shr (pct D day) k c) (ffr (pct D day c i))) k (j + 1), (k : Int) + j + 1), ⟨rfl, by show (k : Int) + j + 1 = _; omega⟩, fun x nx => ?_⟩
              show F_X12_laysShares_B35 N x.1 x.2 nx day k i _ ((k : Int) + j) τ' = _
              unfold F_X12_laysShares_B35
              rw [if_neg (by omega), e1, inb_in (by omega), m_percentOf hN M' V, e4]
              show grd _ _ (grd _ _ (grd _ _ _)) = _
              rw [grd_in (fs_ffr (pb _ _).1 (pb _ _).2), grd_in (fs_mul pb (by omega) (by omega) (pb _ _).1 (pb _ _).2), grd_in (fs_add pb (by omega)), ja_1 (by omega) (by omega)]
              rfl
            · obtain ⟨u, c⟩ := s
              obtain ⟨rfl, rfl⟩ := hI
              show F_X12_laysShares_B35 N x.1 x.2 nx day k i _ _ τ' = _
              unfold F_X12_laysShares_B35
              rw [if_pos (by omega)]
          · refine ⟨FP.fconst0, by unfold shr; rw [if_pos e], fun x nx => ?_⟩
            rw [if_neg (by omega)]
            unfold F_X12_laysShares_J30
            refine loopK_for (s := fun _ => (FP.fconst0, (k : Int))) 0 (bigN hN) (fun j hj => by omega) (fun nx' => ?_)
            show F_X12_laysShares_B35 N x nx nx' day k i FP.fconst0 k τ' = _
            unfold F_X12_laysShares_B35
            rw [if_pos (by omega)]
      obtain ⟨u, hu, hk2⟩ := key
      refine ⟨((i : Int) + 1, upF τ' 102 (8 * k + i) (u.toNat : Int)), ⟨by show (i : Int) + 1 = _; omega, l2, fun a b x y z w => ?_, fun b x y => ?_⟩, fun x nx => ?_⟩
      · show fb ((upF τ' 102 _ _).2 102 _) = _
        rw [uf_ix (by omega)]
        exact l3 a b x y z w
      · show fb ((upF τ' 102 _ _).2 102 _) = _
        by_cases e : b = i
        · subst e; rw [uf_same, fb_t, hu]
        · rw [uf_ix (by omega)]
          exact l4 b x (by omega)
      · show F_X12_laysShares_B12 N x nx day k i τ' = _
        unfold F_X12_laysShares_B12
        rw [l2, M.1.1.1, if_neg (by omega), hk2 x nx]
        unfold F_X12_laysShares_J77
        rw [ix, inb_in (by omega), ja_1 (by omega) (by omega)]
    · obtain ⟨b, τ'⟩ := s
      obtain ⟨rfl, l2, -⟩ := hI
      show F_X12_laysShares_B12 N x nx day k (dm D : Int) τ' = _
      unfold F_X12_laysShares_B12 F_X12_laysShares_J96
      rw [l2, M.1.1.1, if_pos (Int.le_refl _), ja_1 (by omega) (by omega)]
  · obtain ⟨a, τ⟩ := s
    obtain ⟨rfl, i2, -⟩ := hI
    show F_X12_laysShares_B2 N nx day (dm D : Int) τ = _
    unfold F_X12_laysShares_B2
    rw [i2, M.1.1.1, if_pos (Int.le_refl _)]
theorem m_isControl (V : Val D) {day : Int} (S : ShrM σ D day) (g : Int) {a b : Int} (a0 : 0 ≤ a) (a1 : a < dm D) (b0 : 0 ≤ b) (b1 : b < dm D) : F_X12_isControl N a b g σ = some (if ctlB (pct D day) g a b = true then 1 else 0) := by
  have v := V.sz
  unfold F_X12_isControl F_X12_isControl_J29 ctlB
  by_cases h : b ≤ a
  · rw [if_pos h, decide_eq_false (by omega), Bool.false_and]; rfl
  · have ix : ja (jm 8 a) b = 8 * a + b := ix8' (by omega) (by omega) (by omega) (by omega)
    rw [if_neg h, ix, inb_in (by omega), S a b a0 a1 b0 b1, grd_in (fs_100 (pct_bd V day) (by omega) (by omega)), decide_eq_true (by omega), Bool.true_and]
    by_cases q : jfcmp (FP.fmul (shr (pct D day) a b) 1120403456) (ji2f g) .l < 0
    · rw [if_pos q, decide_eq_true q]; rfl
    · rw [if_neg q, decide_eq_false q]; rfl
theorem m_areRelated (hN : BigN N) (M : ModR σ D) (V : Val D) {day : Int} (S : ShrM σ D day) (g : Int) {a b : Int} (a0 : 0 ≤ a) (a1 : a < dm D) (b0 : 0 ≤ b) (b1 : b < dm D) : F_X12_areRelated N a b g σ = some (if relB (pct D day) g (dm D) a b = true then 1 else 0) := by
  have v := V.sz
  unfold F_X12_areRelated relB
  by_cases h : a = b
  · rw [if_pos h, decide_eq_true h]; rfl
  · rw [if_neg h, decide_eq_false h, m_isControl V S g a0 a1 b0 b1, m_isControl V S g b0 b1 a0 a1]
    show (if (if ctlB (pct D day) g a b = true then (1 : Int) else 0) = 0 then (if (if ctlB (pct D day) g b a = true then (1 : Int) else 0) = 0 then _ else _) else _) = _
    by_cases q1 : ctlB (pct D day) g a b = true
    · rw [if_pos q1, if_neg (by decide), q1]; simp
    · rw [if_neg q1, if_pos rfl]
      by_cases q2 : ctlB (pct D day) g b a = true
      · rw [if_pos q2, if_neg (by decide), q2]; simp
      · rw [if_neg q2, if_pos rfl]
        have r : loopK (fun q nx32 => F_X12_areRelated_B32 N nx32 a b g q σ) N 0 = if anyB (fun c => ctlB (pct D day) g c a && ctlB (pct D day) g c b) (dm D) = true then some 1 else some 0 := by
          refine loop_any (bigN hN) (fun k nx hk => ?_) (fun nx => ?_)
          · show F_X12_areRelated_B32 N nx a b g k σ = _
            unfold F_X12_areRelated_B32 F_X12_areRelated_J65
            rw [M.1.1.1, if_neg (by omega), m_isControl V S g (by omega) (by omega) a0 a1, m_isControl V S g (by omega) (by omega) b0 b1, ja_1 (by omega) (by omega)]
            show (if (if ctlB (pct D day) g k a = true then (1 : Int) else 0) = 0 then _ else (if (if ctlB (pct D day) g k b = true then (1 : Int) else 0) = 0 then _ else _)) = _
            by_cases c1 : ctlB (pct D day) g k a = true
            · rw [if_pos c1, if_neg (by decide)]
              by_cases c2 : ctlB (pct D day) g k b = true
              · rw [if_pos c2, if_neg (by decide), if_pos (by simp [c1, c2])]
              · rw [if_neg c2, if_pos rfl, if_neg (by simp [c2])]
            · rw [if_neg c1, if_pos rfl, if_neg (by simp [c1])]
          · show F_X12_areRelated_B32 N nx a b g (dm D : Int) σ = _
            unfold F_X12_areRelated_B32
            rw [M.1.1.1, if_pos (Int.le_refl _)]
        rw [r]
        simp only [Bool.not_eq_true] at q1 q2
        rw [q1, q2]
        simp only [Bool.not_false, Bool.true_and, Bool.false_or]
        split <;> rfl
end MOD
