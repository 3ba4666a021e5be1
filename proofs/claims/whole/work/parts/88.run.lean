/-! THE CLASS'S FLOW: a ROUTE taken, the run -/
theorem drop_one : ∀ {P : List Nat} {k : Nat}, k < P.length → P.drop k = P.getD k 0 :: P.drop (k + 1) := by
  intro P
  induction P with
  | nil => intro k h; exact absurd h (Nat.not_lt_zero _)
  | cons u t ih =>
    intro k h
    cases k with
    | zero => rfl
    | succ k => exact ih (Nat.lt_of_succ_lt_succ h)
theorem getD_head {P : List Nat} : P.getD 0 0 = P.headD 0 := by cases P <;> rfl
def FirX (σ : Sto) (t : Nat) (P : List Nat) : Prop := σ.1 t 10 = P.length ∧ ∀ i : Nat, i < P.length → σ.1 (t + 9) i = (P.getD i 0 : Nat)
def RunX (σ : Sto) (t n : Nat) (sd : Nat → Int) (c pr : Nat → Nat → Int) (s : St) (m : Nat) : Prop := REnd n sd c pr s m ∧ FlowX σ t n sd c pr (sq n sd c pr s m) ∧ σ.1 t 12 = m ∧ σ.1 t 13 = tt n sd c pr s m ∧ (m = 0 → σ.1 t 10 = 0) ∧ (0 < m → FirX σ t (nxP n sd c pr s))
theorem FirX.cg {σ σ' : Sto} {t : Nat} {P : List Nat} (h : FirX σ t P) (e0 : σ'.1 t 10 = σ.1 t 10) (e : ∀ j, σ'.1 (t + 9) j = σ.1 (t + 9) j) : FirX σ' t P := ⟨by rw [e0]; exact h.1, fun i hi => by rw [e]; exact h.2 i hi⟩
theorem RunX.cg {σ σ' : Sto} {t n : Nat} {sd : Nat → Int} {c pr : Nat → Nat → Int} {s : St} {m : Nat} (h : RunX σ t n sd c pr s m) (e : ∀ a j, t ≤ a → a ≤ t + 9 → σ'.1 a j = σ.1 a j) : RunX σ' t n sd c pr s m := by
  obtain ⟨h1, h2, h3, h4, h5, h6⟩ := h
  exact ⟨h1, h2.cg (fun a j q => e a j (by omega) (by omega)), by rw [e _ _ (by omega) (by omega)]; exact h3, by rw [e _ _ (by omega) (by omega)]; exact h4, fun z => by rw [e _ _ (by omega) (by omega)]; exact h5 z, fun z => (h6 z).cg (e _ _ (by omega) (by omega)) (fun j => e _ _ (by omega) (by omega))⟩
section TAKE
variable {N : Nat} {σ : Sto} {t n : Nat} {sd : Nat → Int} {c pr : Nat → Nat → Int} {s : St}
theorem k_amount (hN : BigN N) (O : FOK n sd c pr) (S : SOK n sd c pr s) (X : FlowX σ t n sd c pr s) {P : List Nat} (hP : Rt n sd c s P) (l2 : 2 ≤ P.length) (l12 : P.length ≤ 12) (e9 : σ.1 t 9 = P.length) (rd : ∀ i : Nat, i < P.length → σ.1 (t + 8) i = (P.getD i 0 : Nat)) : F_X1_takeRoute N t σ = F_X1_takeRoute_J74 N t (lastOf P : Nat) (amt sd c s P) σ := by
  have hn := O.1
  have lt := hP.lt
  have r0 := rd 0 (by omega)
  rw [getD_head] at r0
  have r0 : σ.1 (t + 8) 0 = (P.headD 0 : Nat) := r0
  have rl := rd (P.length - 1) (by omega)
  rw [getD_last (by intro z; rw [z] at l2; simp at l2)] at rl
  have el : js (P.length : Int) 1 = ((P.length - 1 : Nat) : Int) := by rw [js_eq ⟨by omega, by omega⟩]; omega
  have h0 := hP.2.1.1
  have h1 := hP.2.2.1
  unfold F_X1_takeRoute
  rw [e9, el, r0, rl, inb_in (by omega), inb_in (by omega), inb_in (by omega), inb_in (by omega), (X.2.1 _ h0).2, (X.2.1 _ h1).2, jmin_mn]
  refine Exists.elim (loop_A (b := fun q nx => F_X1_takeRoute_B35 N nx t (lastOf P : Nat) q.1 q.2 σ) (fin := fun q => F_X1_takeRoute_J74 N t (lastOf P : Nat) q.1 σ) (N := N) (s0 := (mn (s.2 (P.headD 0)) (s.2 (lastOf P)), (0 : Int))) (fun k q => q.2 = k ∧ amE sd c s (P.drop k) q.1 = amt sd c s P) (P.length - 1) (bigN hN) ⟨rfl, rfl⟩ (fun k q hk hI => ?_) (fun q hI nx => ?_)) (fun q hq => ?_)
  rotate_right
  · obtain ⟨⟨j1, j2⟩, hx⟩ := hq
    rw [drop_one (by omega), List.drop_eq_nil_of_le (by omega)] at j2
    have j2 : q.1 = amt sd c s P := j2
    rw [hx, j2]
  · obtain ⟨a, u⟩ := q
    obtain ⟨rfl, i2⟩ := hI
    have ku := lt _ (getD_mem (i := k) (by omega : k < P.length))
    have kv := lt _ (getD_mem (i := k + 1) (by omega : k + 1 < P.length))
    rw [drop_one (by omega), drop_one (k := k + 1) (by omega)] at i2
    refine ⟨(mn a (pas sd c s (P.getD k 0) (P.getD (k + 1) 0)), (k : Int) + 1), ⟨by show (k : Int) + 1 = _; omega, ?_⟩, fun nx => ?_⟩
    · rw [drop_one (k := k + 1) (by omega)]; exact i2
    · show F_X1_takeRoute_B35 N nx t (lastOf P : Nat) a (k : Int) σ = _
      have rk := rd k (by omega)
      have rk1 := rd (k + 1) (by omega)
      rw [show ((k + 1 : Nat) : Int) = (k : Int) + 1 by omega] at rk1
      unfold F_X1_takeRoute_B35
      rw [e9, ja_1 (by omega) (by omega), if_neg (by omega), inb_in (by omega), inb_in (by omega), rk, rk1, k_passable O S X ku kv]
      show nx (jmin a _, _) = _
      rw [jmin_mn]
  · obtain ⟨a, u⟩ := q
    obtain ⟨rfl, -⟩ := hI
    show F_X1_takeRoute_B35 N nx t (lastOf P : Nat) a ((P.length - 1 : Nat) : Int) σ = _
    unfold F_X1_takeRoute_B35
    rw [e9, ja_1 (by omega) (by omega), if_pos (by omega)]
theorem k_augs (hN : BigN N) (O : FOK n sd c pr) (S : SOK n sd c pr s) (X : FlowX σ t n sd c pr s) {P : List Nat} (hP : Rt n sd c s P) (l2 : 2 ≤ P.length) (l12 : P.length ≤ 12) (e9 : σ.1 t 9 = P.length) (rd : ∀ i : Nat, i < P.length → σ.1 (t + 8) i = (P.getD i 0 : Nat)) {e a : Int} (a0 : 0 ≤ a) (a1 : a ≤ 99999) : ∃ σ', F_X1_takeRoute_J74 N t e a σ = F_X1_takeRoute_J163 N t e a σ' ∧ (∀ x z, x ≠ t + 5 → σ'.1 x z = σ.1 x z) ∧ ∀ i j : Nat, i < 12 → j < 12 → σ'.1 (t + 5) (12 * i + j) = augS sd s.1 P a i j := by
  have hn := O.1
  have lt := hP.lt
  unfold F_X1_takeRoute_J74
  refine Exists.elim (loop_A (b := fun q nx => F_X1_takeRoute_B76 N nx t e a q.1 q.2) (fin := fun q => F_X1_takeRoute_J163 N t e a q.2) (N := N) (s0 := ((0 : Int), σ)) (fun k q => q.1 = k ∧ (∀ x z, x ≠ t + 5 → q.2.1 x z = σ.1 x z) ∧ ∃ g : Nat → Nat → Int, (∀ i j : Nat, i < 12 → j < 12 → q.2.1 (t + 5) (12 * i + j) = g i j) ∧ augS sd g (P.drop k) a = augS sd s.1 P a ∧ ∀ i j, -99999 * (k : Int) ≤ g i j ∧ g i j ≤ 200000000 + 99999 * (k : Int)) (P.length - 1) (bigN hN) ⟨rfl, fun _ _ _ => rfl, s.1, X.2.2.2, rfl, fun i j => ?_⟩ (fun k q hk hI => ?_) (fun q hI nx => ?_)) (fun q hq => ?_)
  rotate_right
  · obtain ⟨⟨j1, j2, g, j3, j4, j5⟩, hx⟩ := hq
    rw [drop_one (by omega), List.drop_eq_nil_of_le (by omega)] at j4
    have j4 : g = augS sd s.1 P a := j4
    exact ⟨q.2, hx, j2, fun i j hi hj => by rw [j3 i j hi hj, j4]⟩
  · have q1 := S.1 i j
    have q2 := O.2.2.1 i j
    show -99999 * ((0 : Nat) : Int) ≤ _ ∧ _ ≤ 200000000 + 99999 * ((0 : Nat) : Int)
    omega
  · obtain ⟨u, τ⟩ := q
    obtain ⟨rfl, i2, g, i3, i4, i5⟩ := hI
    have ku := lt _ (getD_mem (i := k) (by omega : k < P.length))
    have kv := lt _ (getD_mem (i := k + 1) (by omega : k + 1 < P.length))
    rw [drop_one (by omega), drop_one (k := k + 1) (by omega)] at i4
    have rk : τ.1 (t + 8) k = (P.getD k 0 : Nat) := (i2 _ _ (by omega)).trans (rd k (by omega))
    have rk1 : τ.1 (t + 8) ((k : Int) + 1) = (P.getD (k + 1) 0 : Nat) := (i2 _ _ (by omega)).trans (rd (k + 1) (by omega))
    have sk : τ.1 (t + 1) (P.getD k 0 : Nat) = sd (P.getD k 0) := (i2 _ _ (by omega)).trans (X.2.1 _ ku).1
    have dk := drop_one (P := P) (k := k + 1) (by omega)
    generalize P.getD k 0 = u at *
    generalize P.getD (k + 1) 0 = v at *
    have guv := i5 u v
    have gvu := i5 v u
    have ixa : ja (jm (u : Int) 12) (v : Int) = 12 * u + v := ix12 (by omega) (by omega) (by omega) (by omega)
    have ixb : ja (jm (v : Int) 12) (u : Int) = 12 * v + u := ix12 (by omega) (by omega) (by omega) (by omega)
    by_cases hs : sd u < 0
    · refine ⟨((k : Int) + 1, upI τ (t + 5) (12 * u + v) (g u v + a)), ⟨by show (k : Int) + 1 = _; omega, fun x z h => ?_, upd2 g u v (g u v + a), fun i j hi hj => ?_, ?_, fun i j => ?_⟩, fun nx => ?_⟩
      · show (upI τ _ _ _).1 x z = _
        rw [up_pl h]; exact i2 x z h
      · show (upI τ _ _ _).1 _ _ = if i = u ∧ j = v then _ else _
        by_cases q : i = u ∧ j = v
        · rw [if_pos q, q.1, q.2, up_same]
        · rw [if_neg q, up_ix (by omega)]; exact i3 i j hi hj
      · rw [dk, ← i4]
        show _ = augS sd (if sd u < 0 then upd2 g u v (g u v + a) else upd2 g v u (g v u - a)) _ a
        rw [if_pos hs]
      · have := i5 i j
        show _ ≤ (if i = u ∧ j = v then g u v + a else g i j) ∧ (if i = u ∧ j = v then g u v + a else g i j) ≤ _
        split <;> omega
      · show F_X1_takeRoute_B76 N nx t e a (k : Int) τ = _
        unfold F_X1_takeRoute_B76 F_X1_takeRoute_J157
        rw [(i2 t 9 (by omega)).trans e9, ja_1 (by omega) (by omega), if_neg (by omega), inb_in (by omega), rk, inb_in (by omega), sk, if_neg (by omega), inb_in (by omega), rk1, ixa, inb_in (by omega), i3 u v (by omega) (by omega), ja_eq (a := g u v) ⟨by omega, by omega⟩]
    · refine ⟨((k : Int) + 1, upI τ (t + 5) (12 * v + u) (g v u - a)), ⟨by show (k : Int) + 1 = _; omega, fun x z h => ?_, upd2 g v u (g v u - a), fun i j hi hj => ?_, ?_, fun i j => ?_⟩, fun nx => ?_⟩
      · show (upI τ _ _ _).1 x z = _
        rw [up_pl h]; exact i2 x z h
      · show (upI τ _ _ _).1 _ _ = if i = v ∧ j = u then _ else _
        by_cases q : i = v ∧ j = u
        · rw [if_pos q, q.1, q.2, up_same]
        · rw [if_neg q, up_ix (by omega)]; exact i3 i j hi hj
      · rw [dk, ← i4]
        show _ = augS sd (if sd u < 0 then upd2 g u v (g u v + a) else upd2 g v u (g v u - a)) _ a
        rw [if_neg hs]
      · have := i5 i j
        show _ ≤ (if i = v ∧ j = u then g v u - a else g i j) ∧ (if i = v ∧ j = u then g v u - a else g i j) ≤ _
        split <;> omega
      · show F_X1_takeRoute_B76 N nx t e a (k : Int) τ = _
        unfold F_X1_takeRoute_B76 F_X1_takeRoute_J157
        rw [(i2 t 9 (by omega)).trans e9, ja_1 (by omega) (by omega), if_neg (by omega), inb_in (by omega), rk, inb_in (by omega), sk, if_pos (by omega), inb_in (by omega), rk1, ixb, inb_in (by omega), i3 v u (by omega) (by omega), js_eq (a := g v u) ⟨by omega, by omega⟩]
  · obtain ⟨u, τ⟩ := q
    obtain ⟨rfl, i2, -⟩ := hI
    show F_X1_takeRoute_B76 N nx t e a ((P.length - 1 : Nat) : Int) τ = _
    unfold F_X1_takeRoute_B76
    rw [(i2 t 9 (by omega)).trans e9, ja_1 (by omega) (by omega), if_pos (by omega)]
theorem k_take (hN : BigN N) (O : FOK n sd c pr) (S : SOK n sd c pr s) (X : FlowX σ t n sd c pr s) {P : List Nat} (hP : Rt n sd c s P) (l2 : 2 ≤ P.length) (l12 : P.length ≤ 12) (e9 : σ.1 t 9 = P.length) (rd : ∀ i : Nat, i < P.length → σ.1 (t + 8) i = (P.getD i 0 : Nat)) {r T : Int} (e12 : σ.1 t 12 = r) (e13 : σ.1 t 13 = T) (r0 : 0 ≤ r) (r1 : r ≤ 600000) (T0 : 0 ≤ T) (T1 : T ≤ 600000) : ∃ σ', F_X1_takeRoute N t σ = some σ' ∧ FlowX σ' t n sd c pr (stp sd c s P) ∧ σ'.1 t 12 = r + 1 ∧ σ'.1 t 13 = T + amt sd c s P ∧ (r = 0 → FirX σ' t P) ∧ (r ≠ 0 → σ'.1 t 10 = σ.1 t 10 ∧ ∀ j, σ'.1 (t + 9) j = σ.1 (t + 9) j) := by
  have hn := O.1
  have am := amt_bd hP
  have h0 := hP.2.1.1
  have h1 := hP.2.2.1
  have q0 := S.2.1 _ h0
  have ne := hP.ne
  rw [k_amount hN O S X hP l2 l12 e9 rd]
  obtain ⟨σ1, a1, a2, a3⟩ := k_augs (e := (lastOf P : Nat)) hN O S X hP l2 l12 e9 rd (a := amt sd c s P) (by omega) (by omega)
  rw [a1]
  have r0' : σ1.1 (t + 8) 0 = (P.headD 0 : Nat) := by
    have := rd 0 (by omega)
    rw [getD_head] at this
    exact (a2 _ _ (by omega)).trans this
  have x0 : σ1.1 (t + 2) (P.headD 0 : Nat) = s.2 (P.headD 0) := (a2 _ _ (by omega)).trans (X.2.1 _ h0).2
  have x1 : (upI σ1 (t + 2) (P.headD 0 : Nat) (s.2 (P.headD 0) - amt sd c s P)).1 (t + 2) (lastOf P : Nat) = s.2 (lastOf P) := by
    rw [up_ix (by omega)]; exact (a2 _ _ (by omega)).trans (X.2.1 _ h1).2
  have x2 : (upI (upI σ1 (t + 2) (P.headD 0 : Nat) (s.2 (P.headD 0) - amt sd c s P)) (t + 2) (lastOf P : Nat) (s.2 (lastOf P) - amt sd c s P)).1 t 13 = T := by
    rw [up_pl (by omega), up_pl (by omega)]; exact (a2 _ _ (by omega)).trans e13
  have q1 := S.2.1 _ h1
  have x3 : (upI (upI (upI σ1 (t + 2) (P.headD 0 : Nat) (s.2 (P.headD 0) - amt sd c s P)) (t + 2) (lastOf P : Nat) (s.2 (lastOf P) - amt sd c s P)) t 13 (T + amt sd c s P)).1 t 12 = r := by
    rw [up_ix (by omega), up_pl (by omega), up_pl (by omega)]; exact (a2 _ _ (by omega)).trans e12
  have x4 : (upI (upI (upI σ1 (t + 2) (P.headD 0 : Nat) (s.2 (P.headD 0) - amt sd c s P)) (t + 2) (lastOf P : Nat) (s.2 (lastOf P) - amt sd c s P)) t 13 (T + amt sd c s P)).1 t 9 = P.length := by
    rw [up_ix (by omega), up_pl (by omega), up_pl (by omega)]; exact (a2 _ _ (by omega)).trans e9
  have fx : ∀ τ : Sto, (∀ x z, x ≠ t + 9 → ¬ (x = t ∧ (z = 10 ∨ z = 12)) → τ.1 x z = (upI (upI (upI σ1 (t + 2) (P.headD 0 : Nat) (s.2 (P.headD 0) - amt sd c s P)) (t + 2) (lastOf P : Nat) (s.2 (lastOf P) - amt sd c s P)) t 13 (T + amt sd c s P)).1 x z) → FlowX τ t n sd c pr (stp sd c s P) ∧ τ.1 t 13 = T + amt sd c s P := fun τ hτ => by
    refine ⟨⟨?_, fun i hi => ⟨?_, ?_⟩, fun i j hi hj => ⟨?_, ?_⟩, fun i j hi hj => ?_⟩, ?_⟩
    · rw [hτ _ _ (by omega) (by omega), up_ix (by omega), up_pl (by omega), up_pl (by omega)]
      exact (a2 _ _ (by omega)).trans X.1
    · rw [hτ _ _ (by omega) (by omega), up_pl (by omega), up_pl (by omega), up_pl (by omega)]
      exact (a2 _ _ (by omega)).trans (X.2.1 i hi).1
    · rw [hτ _ _ (by omega) (by omega), up_pl (by omega)]
      show _ = s.2 i - (if i = P.headD 0 then amt sd c s P else 0) - (if i = lastOf P then amt sd c s P else 0)
      by_cases c1 : i = lastOf P
      · rw [if_neg (fun z => ne (z.symm.trans c1)), if_pos c1, c1, up_same]; omega
      · rw [if_neg c1, up_ix (by omega)]
        by_cases c2 : i = P.headD 0
        · rw [if_pos c2, c2, up_same]; omega
        · rw [if_neg c2, up_ix (by omega)]
          have := (a2 (t + 2) i (by omega)).trans (X.2.1 i hi).2
          omega
    · intro g1 g2
      rw [hτ _ _ (by omega) (by omega), up_pl (by omega), up_pl (by omega), up_pl (by omega)]
      exact (a2 _ _ (by omega)).trans ((X.2.2.1 i j hi hj).1 g1 g2)
    · rw [hτ _ _ (by omega) (by omega), up_pl (by omega), up_pl (by omega), up_pl (by omega)]
      exact (a2 _ _ (by omega)).trans (X.2.2.1 i j hi hj).2
    · rw [hτ _ _ (by omega) (by omega), up_pl (by omega), up_pl (by omega), up_pl (by omega)]
      exact a3 i j hi hj
    · rw [hτ _ _ (by omega) (by omega), up_same]
  unfold F_X1_takeRoute_J163 F_X1_takeRoute_J228
  rw [r0', x0, js_eq (a := s.2 (P.headD 0)) ⟨by omega, by omega⟩, x1, js_eq (a := s.2 (lastOf P)) ⟨by omega, by omega⟩, x2, ja_eq (a := T) ⟨by omega, by omega⟩, x3, x4, inb_in (by omega), inb_in (by omega), inb_in (by omega)]
  by_cases z : r = 0
  · rw [if_pos z, grd_in (by omega)]
    refine ⟨_, rfl, ?_⟩
    obtain ⟨f1, f2⟩ := fx (upI (cpI (upI (upI (upI (upI σ1 (t + 2) (P.headD 0 : Nat) (s.2 (P.headD 0) - amt sd c s P)) (t + 2) (lastOf P : Nat) (s.2 (lastOf P) - amt sd c s P)) t 13 (T + amt sd c s P)) t 10 P.length) (t + 8) 0 (t + 9) 0 12) t 12 (ja ((cpI (upI (upI (upI (upI σ1 (t + 2) (P.headD 0 : Nat) (s.2 (P.headD 0) - amt sd c s P)) (t + 2) (lastOf P : Nat) (s.2 (lastOf P) - amt sd c s P)) t 13 (T + amt sd c s P)) t 10 P.length) (t + 8) 0 (t + 9) 0 12).1 t 12) 1)) (fun x w g1 g2 => by
      rw [upI_ne (by omega)]
      show (if x = t + 9 ∧ _ then _ else _) = _
      rw [if_neg (fun y => g1 y.1), upI_ne (by omega)])
    refine ⟨f1, ?_, f2, fun _ => ⟨?_, fun i hi => ?_⟩, fun y => absurd z y⟩
    · rw [up_same]
      show ja (if t = t + 9 ∧ _ then _ else _) 1 = _
      rw [if_neg (by omega), up_ix (by omega), x3, ja_1 r0 (by omega)]
    · rw [up_ix (by omega)]
      show (if t = t + 9 ∧ _ then _ else _) = _
      rw [if_neg (by omega), up_same]
    · rw [up_pl (by omega)]
      show (if t + 9 = t + 9 ∧ (0 : Int) ≤ i ∧ (i : Int) < 0 + 12 then _ else _) = _
      rw [if_pos (by omega), up_pl (by omega), up_pl (by omega), up_pl (by omega), up_pl (by omega), show (0 : Int) + ((i : Int) - 0) = i by omega]
      exact (a2 _ _ (by omega)).trans (rd i hi)
  · rw [if_neg z]
    refine ⟨_, rfl, ?_⟩
    rw [ja_1 r0 (by omega)]
    obtain ⟨f1, f2⟩ := fx (upI (upI (upI (upI σ1 (t + 2) (P.headD 0 : Nat) (s.2 (P.headD 0) - amt sd c s P)) (t + 2) (lastOf P : Nat) (s.2 (lastOf P) - amt sd c s P)) t 13 (T + amt sd c s P)) t 12 (r + 1)) (fun x w g1 g2 => upI_ne (by omega))
    refine ⟨f1, up_same, f2, fun y => absurd y z, fun _ => ⟨?_, fun j => ?_⟩⟩
    · rw [up_ix (by omega), up_ix (by omega), up_pl (by omega), up_pl (by omega)]; exact a2 _ _ (by omega)
    · rw [up_pl (by omega), up_pl (by omega), up_pl (by omega), up_pl (by omega)]; exact a2 _ _ (by omega)
theorem k_run (hN : BigN N) (O : FOK n sd c pr) {l : Nat → Int} (S : SOK n sd c pr (fun _ _ => 0, l)) (x1 : σ.1 t 11 = n) (x2 : ∀ i : Nat, i < n → σ.1 (t + 1) i = sd i ∧ σ.1 (t + 2) i = l i) (x3 : ∀ i j : Nat, i < n → j < n → (sd i < 0 → 0 < sd j → σ.1 (t + 3) (12 * i + j) = c i j) ∧ σ.1 (t + 4) (12 * i + j) = pr i j) : ∃ m σ', F_X1_run N t σ = some σ' ∧ RunX σ' t n sd c pr (fun _ _ => 0, l) m := by
  -- nothing yet
  have A : ∃ σ1, F_X1_run N t σ = F_X1_run_J24 N t σ1 ∧ FlowX σ1 t n sd c pr (fun _ _ => 0, l) := by
    unfold F_X1_run
    refine Exists.elim (loop_A (b := fun q nx => F_X1_run_B2 N nx t q.1 q.2) (fin := fun q => F_X1_run_J24 N t q.2) (N := N) (s0 := ((0 : Int), σ)) (fun k q => q.1 = k ∧ (∀ a j, a ≠ t + 5 → q.2.1 a j = σ.1 a j) ∧ ∀ j : Int, 0 ≤ j → j < k → q.2.1 (t + 5) j = 0) 144 (bigN hN) ⟨rfl, fun _ _ _ => rfl, fun j a b => by omega⟩ (fun k q hk hI => ?_) (fun q hI nx => ?_)) (fun q hq => ?_)
    rotate_right
    · obtain ⟨⟨j1, j2, j3⟩, hx⟩ := hq
      refine ⟨q.2, hx, by rw [j2 _ _ (by omega)]; exact x1, fun i hi => ?_, fun i j hi hj => ?_, fun i j hi hj => j3 _ (by omega) (by omega)⟩
      · rw [j2 _ _ (by omega), j2 _ _ (by omega)]; exact x2 i hi
      · rw [j2 _ _ (by omega), j2 _ _ (by omega)]; exact x3 i j hi hj
    · obtain ⟨u, τ⟩ := q
      obtain ⟨rfl, i2, i3⟩ := hI
      refine ⟨((k : Int) + 1, upI τ (t + 5) k 0), ⟨by show (k : Int) + 1 = _; omega, fun a j h => ?_, fun j h1 h2 => ?_⟩, fun nx => ?_⟩
      · show (upI τ _ _ _).1 a j = _
        rw [up_pl h]; exact i2 a j h
      · show (upI τ _ _ _).1 _ j = _
        by_cases e : j = k
        · subst e; rw [up_same]
        · rw [up_ix e]; exact i3 j h1 (by omega)
      · show F_X1_run_B2 N nx t (k : Int) τ = _
        unfold F_X1_run_B2
        rw [if_neg (by omega), inb_in (by omega), ja_1 (by omega) (by omega)]
    · obtain ⟨u, τ⟩ := q
      obtain ⟨rfl, -⟩ := hI
      show F_X1_run_B2 N nx t ((144 : Nat) : Int) τ = _
      unfold F_X1_run_B2
      rw [if_pos (by omega)]
  obtain ⟨σ1, A1, A2⟩ := A
  have B : ∃ σ', (∃ m, RunX σ' t n sd c pr (fun _ _ => 0, l) m) ∧ ∀ _ : Unit, F_X1_run_J24 N t σ1 = some σ' := by
    unfold F_X1_run_J24
    refine loop_E (X := Unit) (b := fun _ q nx => F_X1_run_B43 N nx t q.1 q.2.1 q.2.2) (fin := fun _ r => some r) (fun k q => q.2.1 = k ∧ ((q.1 = 1 ∧ RGo n sd c pr (fun _ _ => 0, l) k ∧ FlowX q.2.2 t n sd c pr (sq n sd c pr (fun _ _ => 0, l) k) ∧ q.2.2.1 t 12 = k ∧ q.2.2.1 t 13 = tt n sd c pr (fun _ _ => 0, l) k ∧ (k = 0 → q.2.2.1 t 10 = 0) ∧ (0 < k → FirX q.2.2 t (nxP n sd c pr (fun _ _ => 0, l)))) ∨ (q.1 = 0 ∧ ∃ m, RunX q.2.2 t n sd c pr (fun _ _ => 0, l) m))) _ 600001 (bigN hN) ⟨rfl, Or.inl ⟨rfl, ⟨fun k hk => ?_, fun k hk => by omega⟩, A2.cg (fun a j h => by rw [upI_ne (by omega), upI_ne (by omega), upI_ne (by omega)]), ?_, ?_, fun _ => ?_, fun h => by omega⟩⟩ (fun k q hk hI => ?_)
    · have e : k = 0 := by omega
      subst e; exact S
    · show (upI (upI (upI σ1 t 10 0) t 12 0) t 13 0).1 t 12 = _
      rw [up_ix (by omega), up_same]; rfl
    · show (upI (upI (upI σ1 t 10 0) t 12 0) t 13 0).1 t 13 = _
      rw [up_same]; rfl
    · show (upI (upI (upI σ1 t 10 0) t 12 0) t 13 0).1 t 10 = _
      rw [up_ix (by omega), up_ix (by omega), up_same]
    · obtain ⟨mv, u, τ⟩ := q
      obtain ⟨rfl, i2⟩ := hI
      rcases i2 with ⟨rfl, g1, g2, g3, g4, g5, g6⟩ | ⟨rfl, m, g1⟩
      · have few := goes_few O g1
        have tk := few.2 k (Nat.le_refl _)
        have Sk := g1.1 k (Nat.le_refl _)
        obtain ⟨σ2, cst, ln, m1, m2, m3, m4, m5, m6⟩ := k_measure (N := N) hN O Sk g2
        have X2 : FlowX σ2 t n sd c pr (sq n sd c pr (fun _ _ => 0, l) k) := g2.cg (fun a j h => m2 a j (by omega) (by omega))
        obtain ⟨r, σ3, f1, f2, f3⟩ := k_findRoute (N := N) hN O Sk X2 m4 m6 m5 m3
        have X3 : FlowX σ3 t n sd c pr (sq n sd c pr (fun _ _ => 0, l) k) := X2.cg (fun a j h => f2 a j (by omega) (by omega))
        have k12 : σ3.1 t 12 = k := (f2 _ _ (by omega) (by omega)).trans ((m2 _ _ (by omega) (by omega)).trans g3)
        have k13 : σ3.1 t 13 = tt n sd c pr (fun _ _ => 0, l) k := (f2 _ _ (by omega) (by omega)).trans ((m2 _ _ (by omega) (by omega)).trans g4)
        have k10 : σ3.1 t 10 = τ.1 t 10 := (f2 _ _ (by omega) (by omega)).trans (m2 _ _ (by omega) (by omega))
        have k9 : ∀ j, σ3.1 (t + 9) j = τ.1 (t + 9) j := fun j => (f2 _ _ (by omega) (by omega)).trans (m2 _ _ (by omega) (by omega))
        have unf : ∀ nx, F_X1_run_B43 N nx t 1 (k : Int) τ = if r = 0 then nx (r, (k : Int) + 1, σ3) else ((F_X1_takeRoute N t σ3).bind (fun q6 => nx (r, (k : Int) + 1, q6))) := fun nx => by
          unfold F_X1_run_B43 F_X1_run_J70
          rw [if_neg (by omega), if_neg (by decide), m1, ja_1 (by omega) (by omega)]
          show (F_X1_findRoute N t σ2).bind _ = _
          rw [f1]; rfl
        rcases f3 with ⟨rfl, f3⟩ | ⟨rfl, P, f3, f4, f5, f6, f7, f8⟩
        · refine Or.inl ⟨by omega, (0, (k : Int) + 1, σ3), ⟨by show (k : Int) + 1 = _; omega, Or.inr ⟨rfl, k, ⟨g1, f3⟩, X3, k12, k13, fun z => by rw [k10]; exact g5 z, fun z => (g6 z).cg k10 k9⟩⟩, fun x nx => ?_⟩
          show F_X1_run_B43 N nx t 1 (k : Int) τ = _
          rw [unf nx, if_pos rfl]
        · obtain ⟨σ4, t1, t2, t3, t4, t5, t6⟩ := k_take (N := N) hN O Sk X3 f3.1 f5 f6 f7 f8 k12 k13 (by omega) (by omega) (by omega) (by omega)
          have eP := nxP_eq f3
          refine Or.inl ⟨by omega, (1, (k : Int) + 1, σ4), ⟨by show (k : Int) + 1 = _; omega, Or.inl ⟨rfl, g1.more f3 f4.nodup (stp_ok O Sk f3.1 m3 f4), ?_, ?_, ?_, fun z => by omega, fun _ => ?_⟩⟩, fun x nx => ?_⟩
          · show FlowX σ4 t n sd c pr (stp sd c (sq n sd c pr (fun _ _ => 0, l) k) (nxP n sd c pr (sq n sd c pr (fun _ _ => 0, l) k)))
            rw [eP]; exact t2
          · show σ4.1 t 12 = _
            rw [t3]; omega
          · show σ4.1 t 13 = tt n sd c pr (fun _ _ => 0, l) k + amt sd c (sq n sd c pr (fun _ _ => 0, l) k) (nxP n sd c pr (sq n sd c pr (fun _ _ => 0, l) k))
            rw [eP, t4]
          · by_cases z : k = 0
            · subst z
              have eP : nxP n sd c pr (fun _ _ => 0, l) = P := eP
              rw [eP]; exact t5 rfl
            · have q := t6 (by omega)
              exact (g6 (by omega)).cg (q.1.trans k10) (fun j => (q.2 j).trans (k9 j))
          · show F_X1_run_B43 N nx t 1 (k : Int) τ = _
            rw [unf nx, if_neg (by decide), t1]; rfl
      · refine Or.inr ⟨τ, ⟨m, g1⟩, fun x nx => ?_⟩
        show F_X1_run_B43 N nx t 0 (k : Int) τ = _
        unfold F_X1_run_B43
        rw [if_pos rfl]
        split <;> rfl
  obtain ⟨σ', ⟨m, B1⟩, B2⟩ := B
  exact ⟨m, σ', A1.trans (B2 ()), B1⟩
end TAKE
