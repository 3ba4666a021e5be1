/-! THE REFERENCE'S FLOW: ROUTE by ROUTE -/
theorem next_at {P : List Nat} {k : Nat} (h : k + 1 < P.length) : nextOn P (P.getD k 0) (P.getD (k + 1) 0) := by
  refine ⟨P.take k, P.drop (k + 2), ?_⟩
  rw [← drop_one h, ← drop_one (by omega), List.take_append_drop]
theorem Zr_sq {n : Nat} {sd : Nat → Int} {c pr : Nat → Nat → Int} {s : St} {m : Nat} (Z : Zr n sd s) (h : RGo n sd c pr s m) : ∀ k, k ≤ m → Zr n sd (sq n sd c pr s k) := by
  intro k
  induction k with
  | zero => intro _; exact Z
  | succ k ih =>
    intro hk i hi e
    have a := ih (by omega) i hi e
    obtain ⟨P, hP, -⟩ := h.2 k (by omega)
    show lef (sq n sd c pr s k) (nxP n sd c pr (sq n sd c pr s k)) _ i = 0
    rw [nxP_eq hP]
    unfold lef
    have b1 := hP.1.2.1.2.1
    have b2 := hP.1.2.2.2.1
    rw [if_neg (fun z => by rw [← z, e] at b1; omega), if_neg (fun z => by rw [← z, e] at b2; omega), a]; rfl
section MRUN
variable {N : Nat} {σ : Sto} {D : Dk} {n : Nat} {sd : Nat → Int} {c pr : Nat → Nat → Int} {s : St} {lab : Nat → List Nat}
theorem on_sgn (Q : Prb D n sd c pr) {u v : Nat} (h : GE n sd c s.1 u v) : (D.2 7 u < 0 ↔ sd u < 0) := by
  have e := GE_iff.mp h
  rcases Q.2.1 u h.1 with q | q
  · rw [q, sgnN]
  · omega
theorem m_amount (hN : BigN N) (V : Val D) (M : ModR σ D) (Q : Prb D n sd c pr) (O : FOK n sd c pr) (S : SOK n sd c pr s) (X : FlowM σ n c s) {P : List Nat} (hP : Rt n sd c s P) {e : Nat} (he : e < n) (l9 : σ.1 109 e = P.length) (l12 : P.length ≤ 12) (rd : ∀ k : Nat, k < P.length → σ.1 110 (12 * e + k) = (P.getD k 0 : Nat)) (x : (Int × Sto) → Option (Int × Sto)) (v1 v3 : Int) : F_X12_relieves_J84 N x v1 e v3 (mn (s.2 (P.headD 0)) (s.2 (lastOf P))) σ = F_X12_relieves_J192 N x v1 e v3 (amt sd c s P) σ := by
  have hn := O.1
  have nd := Q.1
  have vz := V.sz
  have lt := hP.lt
  have l1 : 1 ≤ P.length := by
    cases P with
    | nil => exact absurd hP.1 id
    | cons u t => exact Nat.succ_le_succ (Nat.zero_le _)
  unfold F_X12_relieves_J84
  refine Exists.elim (loop_A (b := fun q nx => F_X12_relieves_B89 N x nx v1 e v3 q.1 q.2 σ) (fin := fun q => F_X12_relieves_J192 N x v1 e v3 q.1 σ) (N := N) (s0 := (mn (s.2 (P.headD 0)) (s.2 (lastOf P)), (1 : Int))) (fun k q => q.2 = (k : Int) + 1 ∧ amE sd c s (P.drop k) q.1 = amt sd c s P) (P.length - 1) (bigN hN) ⟨rfl, rfl⟩ (fun k q hk hI => ?_) (fun q hI nx => ?_)) (fun q hq => ?_)
  rotate_right
  · obtain ⟨⟨j1, j2⟩, hx⟩ := hq
    rw [drop_one (by omega), List.drop_eq_nil_of_le (by omega)] at j2
    have j2 : q.1 = amt sd c s P := j2
    rw [hx, j2]
  · obtain ⟨a, u⟩ := q
    obtain ⟨e1, i2⟩ := hI
    have e1 : u = (k : Int) + 1 := e1
    subst e1
    have ku := lt _ (getD_mem (i := k) (by omega : k < P.length))
    have kv := lt _ (getD_mem (i := k + 1) (by omega : k + 1 < P.length))
    have rk := rd k (by omega)
    have rk1 := rd (k + 1) (by omega)
    have ge : GE n sd c s.1 (P.getD k 0) (P.getD (k + 1) 0) := wk_on hP.1 (next_at (by omega))
    rw [drop_one (by omega), drop_one (k := k + 1) (by omega)] at i2
    have dk := drop_one (P := P) (k := k + 1) (by omega)
    generalize P.getD k 0 = u at *
    generalize P.getD (k + 1) 0 = v at *
    have og := on_sgn Q ge
    have g := GE_iff.mp ge
    refine ⟨(mn a (pas sd c s u v), (k : Int) + 1 + 1), ⟨by show (k : Int) + 1 + 1 = _; omega, ?_⟩, fun nx => ?_⟩
    · rw [dk]; exact i2
    · show F_X12_relieves_B89 N x nx v1 e v3 a ((k : Int) + 1) σ = _
      have ia : ja (jm 12 (e : Int)) ((k : Int) + 1) = 12 * e + ((k : Int) + 1) := ix12' (by omega) (by omega) (by omega) (by omega)
      have ib : js (12 * (e : Int) + ((k : Int) + 1)) 1 = 12 * e + k := by rw [js_eq ⟨by omega, by omega⟩]; omega
      rw [show 12 * (e : Int) + ((k + 1 : Nat) : Int) = 12 * e + ((k : Int) + 1) by omega] at rk1
      have iuv : ja (jm 12 (u : Int)) (v : Int) = 12 * u + v := ix12' (by omega) (by omega) (by omega) (by omega)
      have ivu : ja (jm 12 (v : Int)) (u : Int) = 12 * v + u := ix12' (by omega) (by omega) (by omega) (by omega)
      unfold F_X12_relieves_B89 F_X12_relieves_J168 F_X12_relieves_J184
      rw [inb_in (by omega), l9, if_neg (by omega), ia, ib, inb_in (by omega), inb_in (by omega), rk, rk1, m_result M V (by omega) (by omega), Option.bind_some, iuv, ivu, ja_1 (by omega) (by omega), X.2.1 u v g.1 g.2.1, X.2.2 v u (by omega) (by omega)]
      unfold pas mn
      by_cases hs : sd u < 0
      · rw [if_neg (by have := og.mpr hs; omega), inb_in (by omega), if_pos (show sd u < 0 ∧ 0 < sd v by omega)]
        by_cases z : a ≤ c u v - s.1 u v
        · rw [if_pos z]
          by_cases z2 : a < c u v - s.1 u v
          · rw [if_pos z2]
          · rw [if_neg z2, show a = c u v - s.1 u v by omega]
        · rw [if_neg z, if_neg (by omega)]
      · rw [if_pos (by
          by_cases y : D.2 7 u < 0
          · exact absurd (og.mp y) hs
          · omega), inb_in (by omega), if_neg (show ¬ (sd u < 0 ∧ 0 < sd v) by omega), if_pos (show 0 < sd u ∧ sd v < 0 by omega)]
        by_cases z : a ≤ s.1 v u
        · rw [if_pos z]
          by_cases z2 : a < s.1 v u
          · rw [if_pos z2]
          · rw [if_neg z2, show a = s.1 v u by omega]
        · rw [if_neg z, if_neg (by omega)]
  · obtain ⟨a, u⟩ := q
    obtain ⟨e1, -⟩ := hI
    have e1 : u = ((P.length - 1 : Nat) : Int) + 1 := e1
    subst e1
    show F_X12_relieves_B89 N x nx v1 e v3 a _ σ = _
    unfold F_X12_relieves_B89
    rw [inb_in (by omega), l9, if_pos (by omega)]
theorem m_augs (hN : BigN N) (V : Val D) (M : ModR σ D) (Q : Prb D n sd c pr) (O : FOK n sd c pr) (S : SOK n sd c pr s) (X : FlowM σ n c s) {P : List Nat} (hP : Rt n sd c s P) {e : Nat} (he : e < n) (l9 : σ.1 109 e = P.length) (l12 : P.length ≤ 12) (rd : ∀ k : Nat, k < P.length → σ.1 110 (12 * e + k) = (P.getD k 0 : Nat)) {a : Int} (a0 : 0 ≤ a) (a1 : a ≤ 99999) (v1 v3 : Int) : ∃ σ', (∀ x, F_X12_relieves_J192 N x v1 e v3 a σ = F_X12_relieves_J315 N x v1 e v3 a σ') ∧ (∀ b z, b ≠ 106 → b ≠ 107 → σ'.1 b z = σ.1 b z) ∧ (∀ i j : Nat, i < n → j < n → σ'.1 106 (12 * i + j) = c i j - augS sd s.1 P a i j) ∧ ∀ i j : Nat, i < 12 → j < 12 → σ'.1 107 (12 * i + j) = augS sd s.1 P a i j := by
  have hn := O.1
  have nd := Q.1
  have vz := V.sz
  have lt := hP.lt
  have l1 : 1 ≤ P.length := by
    cases P with
    | nil => exact absurd hP.1 id
    | cons u t => exact Nat.succ_le_succ (Nat.zero_le _)
  refine Exists.elim (loop_X (b := fun x q nx => F_X12_relieves_B195 N x nx v1 e v3 a q.1 q.2) (fin := fun x q => F_X12_relieves_J315 N x v1 e v3 a q.2) (N := N) (s0 := ((1 : Int), σ)) (fun k q => q.1 = (k : Int) + 1 ∧ (∀ b z, b ≠ 106 → b ≠ 107 → q.2.1 b z = σ.1 b z) ∧ ∃ g : Nat → Nat → Int, (∀ i j : Nat, i < 12 → j < 12 → q.2.1 107 (12 * i + j) = g i j) ∧ (∀ i j : Nat, i < n → j < n → q.2.1 106 (12 * i + j) = c i j - g i j) ∧ augS sd g (P.drop k) a = augS sd s.1 P a ∧ ∀ i j, -99999 * (k : Int) ≤ g i j ∧ g i j ≤ 200000000 + 99999 * (k : Int)) (P.length - 1) (bigN hN) ⟨rfl, fun _ _ _ _ => rfl, s.1, X.2.2, X.2.1, rfl, fun i j => ?_⟩ (fun k q hk hI => ?_) (fun q hI x nx => ?_)) (fun q hq => ?_)
  rotate_right
  · obtain ⟨⟨j1, j2, g, j3, j4, j5, j6⟩, hx⟩ := hq
    rw [drop_one (by omega), List.drop_eq_nil_of_le (by omega)] at j5
    have j5 : g = augS sd s.1 P a := j5
    refine ⟨q.2, fun x => ?_, j2, fun i j hi hj => by rw [j4 i j hi hj, j5], fun i j hi hj => by rw [j3 i j hi hj, j5]⟩
    unfold F_X12_relieves_J192
    exact hx x
  · have q1 := S.1 i j
    have q2 := O.2.2.1 i j
    show -99999 * ((0 : Nat) : Int) ≤ _ ∧ _ ≤ 200000000 + 99999 * ((0 : Nat) : Int)
    omega
  · obtain ⟨u, τ⟩ := q
    obtain ⟨e1, i2, g, i3, i4, i5, i6⟩ := hI
    have e1 : u = (k : Int) + 1 := e1
    subst e1
    have ku := lt _ (getD_mem (i := k) (by omega : k < P.length))
    have kv := lt _ (getD_mem (i := k + 1) (by omega : k + 1 < P.length))
    have rk : τ.1 110 (12 * e + k) = (P.getD k 0 : Nat) := (i2 _ _ (by decide) (by decide)).trans (rd k (by omega))
    have rk1 : τ.1 110 (12 * e + ((k : Int) + 1)) = (P.getD (k + 1) 0 : Nat) := (i2 _ _ (by decide) (by decide)).trans (rd (k + 1) (by omega))
    have ge : GE n sd c s.1 (P.getD k 0) (P.getD (k + 1) 0) := wk_on hP.1 (next_at (by omega))
    rw [drop_one (by omega), drop_one (k := k + 1) (by omega)] at i5
    have dk := drop_one (P := P) (k := k + 1) (by omega)
    generalize P.getD k 0 = u at *
    generalize P.getD (k + 1) 0 = v at *
    have og := on_sgn Q ge
    have g3 := GE_iff.mp ge
    have guv := i6 u v
    have gvu := i6 v u
    have cuv := O.2.2.1 u v
    have cvu := O.2.2.1 v u
    have M' : ModR τ D := M.fl V (fun b z h _ => i2 b z (by omega) (by omega))
    have ia : ja (jm 12 (e : Int)) ((k : Int) + 1) = 12 * e + ((k : Int) + 1) := ix12' (by omega) (by omega) (by omega) (by omega)
    have ib : js (12 * (e : Int) + ((k : Int) + 1)) 1 = 12 * e + k := by rw [js_eq ⟨by omega, by omega⟩]; omega
    have iuv : ja (jm 12 (u : Int)) (v : Int) = 12 * u + v := ix12' (by omega) (by omega) (by omega) (by omega)
    have ivu : ja (jm 12 (v : Int)) (u : Int) = 12 * v + u := ix12' (by omega) (by omega) (by omega) (by omega)
    have l9' : τ.1 109 e = P.length := (i2 _ _ (by decide) (by decide)).trans l9
    by_cases hs : sd u < 0
    · refine ⟨((k : Int) + 1 + 1, upI (upI τ 107 (12 * u + v) (g u v + a)) 106 (12 * u + v) (c u v - g u v - a)), ⟨by show (k : Int) + 1 + 1 = _; omega, fun b z h1 h2 => ?_, upd2 g u v (g u v + a), fun i j hi hj => ?_, fun i j hi hj => ?_, ?_, fun i j => ?_⟩, fun x nx => ?_⟩
      · show (upI (upI τ _ _ _) _ _ _).1 b z = _
        rw [up_pl h1, up_pl h2]; exact i2 b z h1 h2
      · show (upI (upI τ _ _ _) _ _ _).1 _ _ = if i = u ∧ j = v then _ else _
        rw [up_pl (by decide)]
        by_cases q : i = u ∧ j = v
        · rw [if_pos q, q.1, q.2, up_same]
        · rw [if_neg q, up_ix (by omega)]; exact i3 i j hi hj
      · show (upI (upI τ _ _ _) _ _ _).1 _ _ = c i j - if i = u ∧ j = v then _ else _
        by_cases q : i = u ∧ j = v
        · rw [if_pos q, q.1, q.2, up_same]; omega
        · rw [if_neg q, up_ix (by omega), up_pl (by decide)]; exact i4 i j hi hj
      · rw [dk, ← i5]
        show _ = augS sd (if sd u < 0 then upd2 g u v (g u v + a) else upd2 g v u (g v u - a)) _ a
        rw [if_pos hs]
      · have := i6 i j
        show _ ≤ (if i = u ∧ j = v then g u v + a else g i j) ∧ (if i = u ∧ j = v then g u v + a else g i j) ≤ _
        split <;> omega
      · show F_X12_relieves_B195 N x nx v1 e v3 a ((k : Int) + 1) τ = _
        unfold F_X12_relieves_B195 F_X12_relieves_J264 F_X12_relieves_J283
        rw [inb_in (by omega), l9', if_neg (by omega), ia, ib, inb_in (by omega), inb_in (by omega), rk, rk1, m_result M' V (by omega) (by omega), Option.bind_some, if_neg (by have := og.mpr hs; omega), Option.bind_some, if_neg (by have := og.mpr hs; omega), iuv, inb_in (by omega), i3 u v (by omega) (by omega), ja_eq (a := g u v) ⟨by omega, by omega⟩, up_pl (by decide), i4 u v g3.1 g3.2.1, js_eq (a := c u v - g u v) ⟨by omega, by omega⟩, ja_1 (by omega) (by omega)]
    · refine ⟨((k : Int) + 1 + 1, upI (upI τ 107 (12 * v + u) (g v u - a)) 106 (12 * v + u) (c v u - g v u + a)), ⟨by show (k : Int) + 1 + 1 = _; omega, fun b z h1 h2 => ?_, upd2 g v u (g v u - a), fun i j hi hj => ?_, fun i j hi hj => ?_, ?_, fun i j => ?_⟩, fun x nx => ?_⟩
      · show (upI (upI τ _ _ _) _ _ _).1 b z = _
        rw [up_pl h1, up_pl h2]; exact i2 b z h1 h2
      · show (upI (upI τ _ _ _) _ _ _).1 _ _ = if i = v ∧ j = u then _ else _
        rw [up_pl (by decide)]
        by_cases q : i = v ∧ j = u
        · rw [if_pos q, q.1, q.2, up_same]
        · rw [if_neg q, up_ix (by omega)]; exact i3 i j hi hj
      · show (upI (upI τ _ _ _) _ _ _).1 _ _ = c i j - if i = v ∧ j = u then _ else _
        by_cases q : i = v ∧ j = u
        · rw [if_pos q, q.1, q.2, up_same]; omega
        · rw [if_neg q, up_ix (by omega), up_pl (by decide)]; exact i4 i j hi hj
      · rw [dk, ← i5]
        show _ = augS sd (if sd u < 0 then upd2 g u v (g u v + a) else upd2 g v u (g v u - a)) _ a
        rw [if_neg hs]
      · have := i6 i j
        show _ ≤ (if i = v ∧ j = u then g v u - a else g i j) ∧ (if i = v ∧ j = u then g v u - a else g i j) ≤ _
        split <;> omega
      · have du : 0 ≤ D.2 7 u := by
          by_cases y : D.2 7 u < 0
          · exact absurd (og.mp y) hs
          · omega
        show F_X12_relieves_B195 N x nx v1 e v3 a ((k : Int) + 1) τ = _
        unfold F_X12_relieves_B195 F_X12_relieves_J264 F_X12_relieves_J283
        rw [inb_in (by omega), l9', if_neg (by omega), ia, ib, inb_in (by omega), inb_in (by omega), rk, rk1, m_result M' V (by omega) (by omega), Option.bind_some, if_pos du, Option.bind_some, if_pos du, ivu, inb_in (by omega), i3 v u (by omega) (by omega), jneg_eq ⟨by omega, by omega⟩, ja_eq (a := g v u) ⟨by omega, by omega⟩, up_pl (by decide), i4 v u g3.2.1 g3.1, js_eq (a := c v u - g v u) ⟨by omega, by omega⟩, ja_1 (by omega) (by omega), show c v u - g v u - -a = c v u - g v u + a by omega, show g v u + -a = g v u - a by omega]
  · obtain ⟨u, τ⟩ := q
    obtain ⟨e1, i2, -⟩ := hI
    have e1 : u = ((P.length - 1 : Nat) : Int) + 1 := e1
    subst e1
    show F_X12_relieves_B195 N x nx v1 e v3 a _ τ = _
    unfold F_X12_relieves_B195
    rw [inb_in (by omega), (i2 _ _ (by decide) (by decide)).trans l9, if_pos (by omega)]
theorem m_take (hN : BigN N) (V : Val D) (M : ModR σ D) (Q : Prb D n sd c pr) (O : FOK n sd c pr) (S : SOK n sd c pr s) (X : FlowM σ n c s) {P : List Nat} (hP : Rt n sd c s P) {e : Nat} (he : e < n) (ee : lastOf P = e) (l9 : σ.1 109 e = P.length) (l12 : P.length ≤ 12) (rd : ∀ k : Nat, k < P.length → σ.1 110 (12 * e + k) = (P.getD k 0 : Nat)) {r T : Int} (e37 : σ.1 94 37 = r) (r0 : 0 ≤ r) (r1 : r ≤ 600000) (T0 : 0 ≤ T) (T1 : T ≤ 600000) : ∃ σ', (∀ x, F_X12_relieves_J84 N x T e (P.headD 0 : Nat) (mn (s.2 (P.headD 0)) (s.2 e)) σ = x (T + amt sd c s P, σ')) ∧ FlowM σ' n c (stp sd c s P) ∧ σ'.1 94 37 = r + 1 ∧ ∀ b z, ¬ (105 ≤ b ∧ b ≤ 107) → ¬ (b = 94 ∧ z = 37) → σ'.1 b z = σ.1 b z := by
  have hn := O.1
  have am := amt_bd hP
  have h0 := hP.2.1.1
  have q0 := S.2.1 _ h0
  have q1 := S.2.1 _ he
  have ne := hP.ne
  rw [ee] at ne am
  obtain ⟨σ1, a1, a2, a3, a4⟩ := m_augs (v1 := T) (v3 := (P.headD 0 : Nat)) hN V M Q O S X hP he l9 l12 rd (a := amt sd c s P) (by omega) (by omega)
  have x0 : σ1.1 105 (P.headD 0 : Nat) = s.2 (P.headD 0) := (a2 _ _ (by decide) (by decide)).trans (X.1 _ h0)
  have x1 : (upI σ1 105 (P.headD 0 : Nat) (s.2 (P.headD 0) - amt sd c s P)).1 105 e = s.2 e := by
    rw [up_ix (by omega)]; exact (a2 _ _ (by decide) (by decide)).trans (X.1 _ he)
  have x2 : (upI (upI σ1 105 (P.headD 0 : Nat) (s.2 (P.headD 0) - amt sd c s P)) 105 e (s.2 e - amt sd c s P)).1 94 37 = r := by
    rw [up_pl (by decide), up_pl (by decide)]; exact (a2 _ _ (by decide) (by decide)).trans e37
  refine ⟨upI (upI (upI σ1 105 (P.headD 0 : Nat) (s.2 (P.headD 0) - amt sd c s P)) 105 e (s.2 e - amt sd c s P)) 94 37 (r + 1), fun x => ?_, ⟨fun i hi => ?_, fun i j hi hj => ?_, fun i j hi hj => ?_⟩, up_same, fun b z h1 h2 => ?_⟩
  · have := m_amount (N := N) hN V M Q O S X hP he l9 l12 rd x T (P.headD 0 : Nat)
    rw [ee] at this
    rw [this, a1 x]
    unfold F_X12_relieves_J315
    rw [inb_in (by omega), inb_in (by omega), x0, js_eq (a := s.2 (P.headD 0)) ⟨by omega, by omega⟩, x1, js_eq (a := s.2 e) ⟨by omega, by omega⟩, x2, ja_1 r0 (by omega), ja_eq ⟨by omega, by omega⟩]
  · rw [up_pl (by decide)]
    show _ = s.2 i - (if i = P.headD 0 then amt sd c s P else 0) - (if i = lastOf P then amt sd c s P else 0)
    rw [ee]
    by_cases c1 : i = e
    · rw [if_neg (fun z => ne (z.symm.trans c1)), if_pos c1, c1, up_same]; omega
    · rw [if_neg c1, up_ix (by omega)]
      by_cases c2 : i = P.headD 0
      · rw [if_pos c2, c2, up_same]; omega
      · rw [if_neg c2, up_ix (by omega)]
        have := (a2 105 i (by decide) (by decide)).trans (X.1 i hi)
        omega
  · rw [up_pl (by decide), up_pl (by decide), up_pl (by decide)]; exact a3 i j hi hj
  · rw [up_pl (by decide), up_pl (by decide), up_pl (by decide)]; exact a4 i j hi hj
  · rw [upI_ne h2, up_pl (by omega), up_pl (by omega)]; exact a2 b z (by omega) (by omega)
theorem m_relieves (hN : BigN N) (V : Val D) (M : ModR σ D) (Q : Prb D n sd c pr) (O : FOK n sd c pr) {l : Nat → Int} {m : Nat} (R : REnd n sd c pr (fun _ _ => 0, l) m) (Z : Zr n sd (fun _ _ => 0, l)) (x1 : ∀ i : Nat, i < n → σ.1 105 i = l i) (x2 : ∀ i j : Nat, i < n → j < n → σ.1 106 (12 * i + j) = c i j) : ∃ σ', F_X12_relieves N σ = some (tt n sd c pr (fun _ _ => 0, l) m, σ') ∧ FlowM σ' n c (sq n sd c pr (fun _ _ => 0, l) m) ∧ σ'.1 94 37 = m ∧ ∀ b z, ¬ (105 ≤ b ∧ b ≤ 110) → ¬ (b = 94 ∧ z = 37) → σ'.1 b z = σ.1 b z := by
  have hn := O.1
  have nd := Q.1
  have A : ∃ σ1, F_X12_relieves N σ = F_X12_relieves_J22 N σ1 ∧ FlowM σ1 n c (fun _ _ => 0, l) ∧ ∀ b z, b ≠ 107 → σ1.1 b z = σ.1 b z := by
    unfold F_X12_relieves
    refine Exists.elim (loop_A (b := fun q nx => F_X12_relieves_B2 N nx q.1 q.2) (fin := fun q => F_X12_relieves_J22 N q.2) (N := N) (s0 := ((0 : Int), σ)) (fun k q => q.1 = k ∧ (∀ a j, a ≠ 107 → q.2.1 a j = σ.1 a j) ∧ ∀ j : Int, 0 ≤ j → j < k → q.2.1 107 j = 0) 144 (bigN hN) ⟨rfl, fun _ _ _ => rfl, fun j a b => by omega⟩ (fun k q hk hI => ?_) (fun q hI nx => ?_)) (fun q hq => ?_)
    rotate_right
    · obtain ⟨⟨j1, j2, j3⟩, hx⟩ := hq
      refine ⟨q.2, hx, ⟨fun i hi => by rw [j2 _ _ (by decide)]; exact x1 i hi, fun i j hi hj => ?_, fun i j hi hj => j3 _ (by omega) (by omega)⟩, j2⟩
      rw [j2 _ _ (by decide), x2 i j hi hj]
      show c i j = c i j - 0
      omega
    · obtain ⟨u, τ⟩ := q
      obtain ⟨rfl, i2, i3⟩ := hI
      refine ⟨((k : Int) + 1, upI τ 107 k 0), ⟨by show (k : Int) + 1 = _; omega, fun a j h => ?_, fun j h1 h2 => ?_⟩, fun nx => ?_⟩
      · show (upI τ _ _ _).1 a j = _
        rw [up_pl h]; exact i2 a j h
      · show (upI τ _ _ _).1 _ j = _
        by_cases e : j = k
        · subst e; rw [up_same]
        · rw [up_ix e]; exact i3 j h1 (by omega)
      · show F_X12_relieves_B2 N nx (k : Int) τ = _
        unfold F_X12_relieves_B2
        rw [if_neg (by omega), inb_in (by omega), ja_1 (by omega) (by omega)]
    · obtain ⟨u, τ⟩ := q
      obtain ⟨rfl, -⟩ := hI
      show F_X12_relieves_B2 N nx ((144 : Nat) : Int) τ = _
      unfold F_X12_relieves_B2
      rw [if_pos (by omega)]
  obtain ⟨σ1, A1, A2, A3⟩ := A
  have B : ∃ r : Int × Sto, (r.1 = tt n sd c pr (fun _ _ => 0, l) m ∧ FlowM r.2 n c (sq n sd c pr (fun _ _ => 0, l) m) ∧ r.2.1 94 37 = m ∧ ∀ b z, ¬ (105 ≤ b ∧ b ≤ 110) → ¬ (b = 94 ∧ z = 37) → r.2.1 b z = σ.1 b z) ∧ ∀ _ : Unit, F_X12_relieves_J22 N σ1 = some r := by
    unfold F_X12_relieves_J22
    refine loop_E (X := Unit) (b := fun _ q nx => F_X12_relieves_B29 N nx q.1 q.2) (fin := fun _ r => some r) (s0 := ((0 : Int), upI σ1 94 37 0)) (fun k q => q.1 = tt n sd c pr (fun _ _ => 0, l) k ∧ FlowM q.2 n c (sq n sd c pr (fun _ _ => 0, l) k) ∧ q.2.1 94 37 = k ∧ ∀ b z, ¬ (105 ≤ b ∧ b ≤ 110) → ¬ (b = 94 ∧ z = 37) → q.2.1 b z = σ.1 b z) _ m (by have := (goes_few O R.1).1; exact bigN hN) ⟨rfl, A2.cg (fun a j h => up_pl (by omega)), up_same, fun b z h1 h2 => (upI_ne h2).trans (A3 b z (by omega))⟩ (fun k q hk hI => ?_)
    obtain ⟨T, τ⟩ := q
    obtain ⟨e1, i2, i3, i4⟩ := hI
    have e1 : T = tt n sd c pr (fun _ _ => 0, l) k := e1
    subst e1
    have few := goes_few O R.1
    have tk := few.2 k hk
    have Sk := R.1.1 k hk
    have Zk := Zr_sq Z R.1 k hk
    have Mk : ModR τ D := M.fl V i4
    obtain ⟨σ2, lab, r1, r2, r3⟩ := m_laysRoutes (N := N) hN V Mk Q O Sk Zk i2
    have X2 : FlowM σ2 n c (sq n sd c pr (fun _ _ => 0, l) k) := i2.cg (fun a z h => r2 a z (by omega))
    have M2 : ModR σ2 D := Mk.fl V (fun a z h _ => r2 a z (by omega))
    obtain ⟨r, b1, b2⟩ := m_bestEnd (N := N) hN V M2 Q O Sk Zk X2 r3
    have unf : ∀ nx, F_X12_relieves_B29 N nx (tt n sd c pr (fun _ _ => 0, l) k) τ = if 0 ≤ r then (inb (jm 12 r) 156 (inb (σ2.1 110 (jm 12 r)) 12 (inb r 12 (if (σ2.1 105 r) ≤ (σ2.1 105 (σ2.1 110 (jm 12 r))) then (F_X12_relieves_J84 N nx (tt n sd c pr (fun _ _ => 0, l) k) r (σ2.1 110 (jm 12 r)) (σ2.1 105 r) σ2) else (F_X12_relieves_J84 N nx (tt n sd c pr (fun _ _ => 0, l) k) r (σ2.1 110 (jm 12 r)) (σ2.1 105 (σ2.1 110 (jm 12 r))) σ2))))) else some (tt n sd c pr (fun _ _ => 0, l) k, σ2) := fun nx => by
      unfold F_X12_relieves_B29
      rw [r1, Option.bind_some, b1, Option.bind_some]
    rcases b2 with ⟨rfl, b2⟩ | ⟨e, rfl, b2, b3, b4, b5, b6⟩
    · have km : k = m := by
        rcases Nat.lt_or_ge k m with z | z
        · obtain ⟨P, hP, -⟩ := R.1.2 k z
          exact absurd hP.1 (b2 P)
        · omega
      subst km
      refine Or.inr ⟨(tt n sd c pr (fun _ _ => 0, l) k, σ2), ⟨rfl, X2, (r2 _ _ (by omega)).trans i3, fun b z h1 h2 => (r2 b z (by omega)).trans (i4 b z h1 h2)⟩, fun x nx => ?_⟩
      show F_X12_relieves_B29 N nx _ τ = _
      rw [unf nx, if_neg (by decide)]
    · have km : k < m := by
        rcases Nat.lt_or_ge k m with z | z
        · exact z
        · have : k = m := by omega
          subst this
          exact absurd b6.1 (R.2 _)
      have eP := nxP_eq b6
      have Le := r3.1 e b2
      have ll := r3.2.1.len e
      have nz := len_nz b3
      obtain ⟨σ3, t1, t2, t3, t4⟩ := m_take (N := N) hN V M2 Q O Sk X2 b6.1 b2 b4 Le.2.1 (by omega) Le.2.2 ((r2 _ _ (by omega)).trans i3) (by omega) (by omega) tk.1 (by omega)
      have h0 := b6.1.2.1.1
      have e12 : jm 12 (e : Int) = 12 * e := jm_eq ⟨by omega, by omega⟩
      have w0 : σ2.1 110 (12 * e) = ((lab e).headD 0 : Nat) := by
        have := Le.2.2 0 (by omega)
        rw [getD_head, show 12 * (e : Int) + ((0 : Nat) : Int) = 12 * e by omega] at this
        exact this
      refine Or.inl ⟨km, (tt n sd c pr (fun _ _ => 0, l) (k + 1), σ3), ⟨rfl, ?_, ?_, fun b z h1 h2 => (t4 b z (by omega) h2).trans ((r2 b z (by omega)).trans (i4 b z h1 h2))⟩, fun x nx => ?_⟩
      · show FlowM σ3 n c (stp sd c (sq n sd c pr (fun _ _ => 0, l) k) (nxP n sd c pr (sq n sd c pr (fun _ _ => 0, l) k)))
        rw [eP]; exact t2
      · show σ3.1 94 37 = _
        rw [t3]; omega
      · show F_X12_relieves_B29 N nx _ τ = nx (tt n sd c pr (fun _ _ => 0, l) k + amt sd c (sq n sd c pr (fun _ _ => 0, l) k) (nxP n sd c pr (sq n sd c pr (fun _ _ => 0, l) k)), σ3)
        rw [unf nx, if_pos (by omega), e12, inb_in (by omega), w0, inb_in (by omega), inb_in (by omega), X2.1 e b2, X2.1 _ h0, eP, ← t1 nx]
        unfold mn
        by_cases z : (sq n sd c pr (fun _ _ => 0, l) k).2 e ≤ (sq n sd c pr (fun _ _ => 0, l) k).2 ((lab e).headD 0)
        · rw [if_pos z, if_neg (by omega)]
        · rw [if_neg z, if_pos (by omega)]
  obtain ⟨r, ⟨B1, B2, B3, B4⟩, hB⟩ := B
  refine ⟨r.2, (A1.trans (hB ())).trans ?_, B2, B3, B4⟩
  rw [← B1]
end MRUN
