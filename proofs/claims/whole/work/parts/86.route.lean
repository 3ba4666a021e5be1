/-! THE CLASS'S FLOW: the ROUTE that is found -/
def Rt (n : Nat) (sd : Nat → Int) (c : Nat → Nat → Int) (s : St) (P : List Nat) : Prop := Wk (GE n sd c s.1) P ∧ (P.headD 0 < n ∧ sd (P.headD 0) < 0 ∧ 0 < s.2 (P.headD 0)) ∧ snkF n sd s (lastOf P)
def Bst (n : Nat) (sd : Nat → Int) (c pr : Nat → Nat → Int) (s : St) (P : List Nat) : Prop := Rt n sd c s P ∧ ∀ Q, Rt n sd c s Q → ¬ ahead (GW sd pr) Q P
theorem Bst.uniq {n : Nat} {sd : Nat → Int} {c pr : Nat → Nat → Int} {s : St} {P Q : List Nat} (h1 : Bst n sd c pr s P) (h2 : Bst n sd c pr s Q) : P = Q := ahead_unique (S := Rt n sd c s) h1.1 h2.1 h1.2 h2.2
theorem Wk_lt {n : Nat} {sd : Nat → Int} {c f : Nat → Nat → Int} : ∀ {P : List Nat}, Wk (GE n sd c f) P → P.headD 0 < n → ∀ x ∈ P, x < n := by
  intro P
  induction P with
  | nil => intro h; exact absurd h id
  | cons u P ih =>
    intro h h0 x hx
    cases P with
    | nil =>
      have e : x = u := by simpa using hx
      rw [e]; exact h0
    | cons v t =>
      rcases List.mem_cons.mp hx with e | e
      · rw [e]; exact h0
      · exact ih h.2 h.1.2.1 x e
theorem Rt.lt {n : Nat} {sd : Nat → Int} {c : Nat → Nat → Int} {s : St} {P : List Nat} (h : Rt n sd c s P) : ∀ x ∈ P, x < n := Wk_lt h.1 h.2.1.1
theorem fnd_first {f : Int → Bool} : ∀ {n : Nat} {k : Nat}, (∃ j : Nat, k ≤ j ∧ j < k + n ∧ f j = true) → ∃ q : Nat, fnd f n k = q ∧ k ≤ q ∧ q < k + n ∧ f q = true ∧ ∀ j : Nat, k ≤ j → j < k + n → f j = true → q ≤ j := by
  intro n
  induction n with
  | zero => rintro k ⟨j, h1, h2, -⟩; omega
  | succ n ih =>
    rintro k ⟨j, h1, h2, h3⟩
    show ∃ q : Nat, (if f k = true then (k : Int) else fnd f n ((k : Int) + 1)) = q ∧ _
    by_cases e : f k = true
    · exact ⟨k, if_pos e, Nat.le_refl _, by omega, e, fun j a _ _ => a⟩
    · have ne : k ≠ j := fun z => e (by rw [z]; exact h3)
      obtain ⟨q, q1, q2, q3, q4, q5⟩ := ih (k := k + 1) ⟨j, by omega, by omega, h3⟩
      refine ⟨q, by rw [if_neg e]; exact q1, by omega, by omega, q4, fun j a b d => ?_⟩
      by_cases z : j = k
      · subst z; exact absurd d e
      · exact q5 j (by omega) (by omega) d
theorem fnd_none {f : Int → Bool} : ∀ {n : Nat} {k : Nat}, (∀ j : Nat, k ≤ j → j < k + n → f j = false) → fnd f n k = -1 := by
  intro n
  induction n with
  | zero => intro k _; rfl
  | succ n ih =>
    intro k h
    show (if f k = true then (k : Int) else fnd f n ((k : Int) + 1)) = -1
    rw [if_neg (by rw [h k (Nat.le_refl _) (by omega)]; decide)]
    exact ih (k := k + 1) (fun j a b => h j (by omega) (by omega))
section EXT
variable {E : Nat → Nat → Prop} {w : Nat → Nat → Int} {cst : Nat → Int} {ln : Nat → Nat}
theorem Ext.last : ∀ {P : List Nat}, Ext E w cst ln P → ln (lastOf P) = 1 := by
  intro P
  induction P with
  | nil => intro h; exact absurd h id
  | cons u P ih =>
    intro h
    cases P with
    | nil => exact h
    | cons v t => exact ih h.2.2
theorem Ext.less : ∀ {t : List Nat} {u : Nat}, Ext E w cst ln (u :: t) → ∀ x ∈ t, ln x < ln u := by
  intro t
  induction t with
  | nil => intro u _ x hx; cases hx
  | cons v t ih =>
    intro u h x hx
    have q := h.1.2.1
    rcases List.mem_cons.mp hx with e | e
    · rw [e]; omega
    · have := ih h.2.2 x e; omega
theorem Ext.nodup : ∀ {P : List Nat}, Ext E w cst ln P → P.Nodup := by
  intro P
  induction P with
  | nil => intro _; exact List.nodup_nil
  | cons u P ih =>
    intro h
    cases P with
    | nil => simp
    | cons v t =>
      refine List.nodup_cons.mpr ⟨fun z => ?_, ih h.2.2⟩
      have := Ext.less h u z
      omega
end EXT
theorem getD_last : ∀ {P : List Nat}, P ≠ [] → P.getD (P.length - 1) 0 = lastOf P := by
  intro P
  induction P with
  | nil => intro h; exact absurd rfl h
  | cons u P ih =>
    intro _
    cases P with
    | nil => rfl
    | cons v t => exact ih (by simp)
theorem getD_mem {P : List Nat} {i : Nat} (h : i < P.length) : P.getD i 0 ∈ P := by
  rw [List.getD_eq_getElem?_getD, List.getElem?_eq_getElem h]
  exact List.getElem_mem h
/-- how much more can go -/
def pas (sd : Nat → Int) (c : Nat → Nat → Int) (s : St) (u v : Nat) : Int := if sd u < 0 ∧ 0 < sd v then c u v - s.1 u v else if 0 < sd u ∧ sd v < 0 then s.1 v u else 0
theorem GE_pas {n : Nat} {sd : Nat → Int} {c : Nat → Nat → Int} {s : St} {u v : Nat} (hu : u < n) (hv : v < n) : GE n sd c s.1 u v ↔ 0 < pas sd c s u v := by
  rw [GE_iff]
  unfold pas
  by_cases h1 : sd u < 0 ∧ 0 < sd v
  · rw [if_pos h1]; omega
  · rw [if_neg h1]
    by_cases h2 : 0 < sd u ∧ sd v < 0
    · rw [if_pos h2]; omega
    · rw [if_neg h2]; omega
section ROUTE
variable {N : Nat} {σ : Sto} {t n : Nat} {sd : Nat → Int} {c pr : Nat → Nat → Int} {s : St} {cst : Nat → Int} {ln : Nat → Nat}
theorem pas_bd (O : FOK n sd c pr) (S : SOK n sd c pr s) (u v : Nat) : 0 ≤ pas sd c s u v ∧ pas sd c s u v ≤ 200000000 := by
  have a := S.1 u v
  have b := S.1 v u
  have d := O.2.2.1 u v
  have e := O.2.2.1 v u
  unfold pas; split
  · omega
  · split <;> omega
theorem k_passable (O : FOK n sd c pr) (S : SOK n sd c pr s) (X : FlowX σ t n sd c pr s) {u v : Nat} (hu : u < n) (hv : v < n) : F_X1_passable N t u v σ = some (pas sd c s u v) := by
  have hn := O.1
  have a := S.1 u v
  have d := O.2.2.1 u v
  have ix : ja (jm (u : Int) 12) (v : Int) = 12 * u + v := ix12 (by omega) (by omega) (by omega) (by omega)
  have ix2 : ja (jm (v : Int) 12) (u : Int) = 12 * v + u := ix12 (by omega) (by omega) (by omega) (by omega)
  unfold F_X1_passable F_X1_passable_J39 F_X1_passable_J71 pas
  have iu : ∀ x : Option Int, inb (u : Int) 12 x = x := fun x => inb_in ⟨by omega, by omega⟩
  have iv : ∀ x : Option Int, inb (v : Int) 12 x = x := fun x => inb_in ⟨by omega, by omega⟩
  have iuv : ∀ x : Option Int, inb (12 * (u : Int) + v) 144 x = x := fun x => inb_in ⟨by omega, by omega⟩
  have ivu : ∀ x : Option Int, inb (12 * (v : Int) + u) 144 x = x := fun x => inb_in ⟨by omega, by omega⟩
  rw [ix, ix2]
  simp only [iu, iv, iuv, ivu]
  rw [(X.2.1 u hu).1, (X.2.1 v hv).1, X.2.2.2 u v (by omega) (by omega), X.2.2.2 v u (by omega) (by omega)]
  by_cases h1 : sd u < 0
  · rw [if_neg (by omega : ¬ 0 ≤ sd u)]
    by_cases h2 : 0 < sd v
    · rw [if_neg (by omega : ¬ sd v ≤ 0), (X.2.2.1 u v hu hv).1 h1 h2, js_eq ⟨by omega, by omega⟩, if_pos ⟨h1, h2⟩]
    · rw [if_pos (by omega : sd v ≤ 0), if_pos (by omega : sd u ≤ 0), if_neg (by omega : ¬ (sd u < 0 ∧ 0 < sd v)), if_neg (by omega : ¬ (0 < sd u ∧ sd v < 0))]
  · rw [if_pos (by omega : 0 ≤ sd u), if_neg (by omega : ¬ (sd u < 0 ∧ 0 < sd v))]
    by_cases h2 : 0 < sd u
    · rw [if_neg (by omega : ¬ sd u ≤ 0)]
      by_cases h3 : sd v < 0
      · rw [if_neg (by omega : ¬ 0 ≤ sd v), if_pos ⟨h2, h3⟩]
      · rw [if_pos (by omega : 0 ≤ sd v), if_neg (by omega : ¬ (0 < sd u ∧ sd v < 0))]
    · rw [if_pos (by omega : sd u ≤ 0), if_neg (by omega : ¬ (0 < sd u ∧ sd v < 0))]
/-- the tables of a measured flow -/
def MsX (σ : Sto) (t n : Nat) (cst : Nat → Int) (ln : Nat → Nat) : Prop := ∀ v : Nat, v < n → σ.1 (t + 6) v = cst v ∧ σ.1 (t + 7) v = (ln v : Nat)
theorem MsX.cg {σ' : Sto} (M : MsX σ t n cst ln) (e : ∀ a j, a = t + 6 ∨ a = t + 7 → σ'.1 a j = σ.1 a j) : MsX σ' t n cst ln := fun v hv => by
  rw [e _ _ (Or.inl rfl), e _ _ (Or.inr rfl)]; exact M v hv
theorem k_follower (hN : BigN N) (O : FOK n sd c pr) (S : SOK n sd c pr s) (X : FlowX σ t n sd c pr s) (M : MsX σ t n cst ln) (hb : ∀ v, -2376 ≤ cst v ∧ cst v ≤ 2376) (hl : ∀ v, ln v ≤ n) (hd : Dist (GE n sd c s.1) (GW sd pr) (snkF n sd s) cst ln) {u : Nat} (hu : u < n) (h2 : 1 < ln u) : ∃ q : Nat, F_X1_followerOf N t u σ = some (q : Int) ∧ tight (GE n sd c s.1) (GW sd pr) cst ln u q ∧ ∀ x, tight (GE n sd c s.1) (GW sd pr) cst ln u x → q ≤ x := by
  have hn := O.1
  have Mu := M u hu
  have lu := hl u
  let f : Int → Bool := fun p => decide (ln p.toNat + 1 = ln u ∧ cst p.toNat + GW sd pr u p.toNat = cst u ∧ 0 < pas sd c s u p.toNat)
  have ft : ∀ p : Nat, p < n → (f (p : Int) = true ↔ tight (GE n sd c s.1) (GW sd pr) cst ln u p) := fun p hp => by
    show decide _ = true ↔ _
    rw [decide_eq_true_iff, Int.toNat_natCast]
    unfold tight
    rw [GE_pas hu hp]
    constructor
    · rintro ⟨a, b, d⟩; exact ⟨d, a, by omega, b⟩
    · rintro ⟨a, b, _, d⟩; exact ⟨b, d, a⟩
  obtain ⟨x, hx⟩ := hd.next h2
  have xn : x < n := hx.1.2.1
  obtain ⟨q, q1, q2, q3, q4, q5⟩ := fnd_first (f := f) (n := n) (k := 0) ⟨x, by omega, by omega, (ft x xn).mpr hx⟩
  refine ⟨q, ?_, (ft q (by omega)).mp q4, fun y hy => ?_⟩
  · unfold F_X1_followerOf
    refine (loop_find (b := fun q nx2 => F_X1_followerOf_B2 N nx2 t u q σ) (f := f) (m := n) (fin := fun k => some k) (bigN hN) (fun p nx hp => ?_) (fun nx => ?_)).trans (by rw [show ((0 : Nat) : Int) = (0 : Int) from rfl] at q1; rw [q1])
    · have Mp := M p hp
      have lp := hl p
      have bp := hb p
      have bu := hb u
      have g := GW_bd O u p
      have ix : ja (jm (u : Int) 12) (p : Int) = 12 * u + p := ix12 (by omega) (by omega) (by omega) (by omega)
      have ix2 : ja (jm (p : Int) 12) (u : Int) = 12 * p + u := ix12 (by omega) (by omega) (by omega) (by omega)
      have key : F_X1_followerOf_J45 N nx t u p (GW sd pr u p) σ = if f p = true then some (p : Int) else nx ((p : Int) + 1) := by
        unfold F_X1_followerOf_J45 F_X1_followerOf_J84 F_X1_followerOf_J85 F_X1_followerOf_J103
        rw [inb_in (by omega), inb_in (by omega), Mp.1, Mp.2, Mu.1, Mu.2, js_eq ⟨by omega, by omega⟩, ja_eq (a := cst p) ⟨by omega, by omega⟩, ja_1 (by omega) (by omega), if_neg (by decide : ¬ (1 : Int) = 0), if_pos (rfl : (0 : Int) = 0), k_passable O S X hu hp]
        show (if (ln p : Int) = (ln u : Int) - 1 then (if cst p + GW sd pr u p = cst u then (if pas sd c s u p ≤ 0 then nx ((p : Int) + 1) else some (p : Int)) else nx ((p : Int) + 1)) else nx ((p : Int) + 1)) = if decide _ = true then _ else _
        rw [Int.toNat_natCast]
        by_cases c1 : (ln p : Int) = (ln u : Int) - 1
        · rw [if_pos c1]
          by_cases c2 : cst p + GW sd pr u p = cst u
          · rw [if_pos c2]
            by_cases c3 : pas sd c s u p ≤ 0
            · rw [if_pos c3, if_neg (by rw [decide_eq_true_iff]; omega)]
            · rw [if_neg c3, if_pos (by rw [decide_eq_true_iff]; omega)]
          · rw [if_neg c2, if_neg (by rw [decide_eq_true_iff]; omega)]
        · rw [if_neg c1, if_neg (by rw [decide_eq_true_iff]; omega)]
      show F_X1_followerOf_B2 N nx t u p σ = _
      unfold F_X1_followerOf_B2
      have p1 := O.2.1 p u
      rw [X.1, if_neg (by omega), inb_in (by omega), ix, ix2, inb_in (by omega), inb_in (by omega), (X.2.1 u hu).1, (X.2.2.1 u p hu hp).2, (X.2.2.1 p u hp hu).2, jneg_eq ⟨by omega, by omega⟩, ← key]
      by_cases hs : sd u < 0
      · rw [if_neg (by omega), GW_L hs]
      · rw [if_pos (by omega), GW_P hs]
    · show F_X1_followerOf_B2 N nx t u (n : Int) σ = _
      unfold F_X1_followerOf_B2
      rw [X.1, if_pos (Int.le_refl _)]
  · exact q5 y (by omega) (by have := hy.1.2.1; omega) ((ft y hy.1.2.1).mpr hy)
theorem k_path (hN : BigN N) (O : FOK n sd c pr) (S : SOK n sd c pr s) (hb : ∀ v, -2376 ≤ cst v ∧ cst v ≤ 2376) (hl : ∀ v, ln v ≤ n) (hd : Dist (GE n sd c s.1) (GW sd pr) (snkF n sd s) cst ln) : ∀ (d u k : Nat) (σ : Sto) (K : Nat), FlowX σ t n sd c pr s → MsX σ t n cst ln → ln u = d + 1 → u < n → k + d + 1 ≤ 12 → d + 2 ≤ K → ∃ tl σ', loopK (fun q nx90 => F_X1_findRoute_B90 N nx90 t q.1 q.2.1 q.2.2) K ((u : Int), (k : Int), σ) = F_X1_findRoute_J140 N t σ' ∧ Ext (GE n sd c s.1) (GW sd pr) cst ln (u :: tl) ∧ tl.length = d ∧ σ'.1 t 9 = (k : Int) + d + 1 ∧ (∀ i : Nat, i < d + 1 → σ'.1 (t + 8) ((k : Int) + i) = ((u :: tl).getD i 0 : Nat)) ∧ (∀ j : Int, j < k → σ'.1 (t + 8) j = σ.1 (t + 8) j) ∧ ∀ a z, a ≠ t + 8 → ¬ (a = t ∧ z = 9) → σ'.1 a z = σ.1 a z := by
  intro d
  induction d with
  | zero =>
    intro u k σ K X M hlu hu hk hK
    have hn := O.1
    obtain ⟨K, rfl⟩ : ∃ i, K = i + 2 := ⟨K - 2, by omega⟩
    refine ⟨[], upI (upI σ (t + 8) k u) t 9 ((k : Int) + 1), ?_, hlu, rfl, by rw [up_same]; omega, fun i hi => ?_, fun j hj => ?_, fun a z h1 h2 => ?_⟩
    · show F_X1_findRoute_B90 N (loopK _ (K + 1)) t u k σ = _
      unfold F_X1_findRoute_B90 F_X1_findRoute_J133
      rw [if_neg (by omega), if_neg (by omega), inb_in (by omega), inb_in (by omega), up_pl (by omega), up_pl (by omega), (M u hu).2, if_pos (by omega), ja_1 (by omega) (by omega)]
      show F_X1_findRoute_B90 N (loopK _ K) t (-1) ((k : Int) + 1) _ = _
      unfold F_X1_findRoute_B90
      split
      · rfl
      · rw [if_pos (by decide)]
    · have e : i = 0 := by omega
      subst e
      show (upI (upI σ (t + 8) k u) t 9 _).1 (t + 8) ((k : Int) + ((0 : Nat) : Int)) = (u : Int)
      rw [up_pl (by omega), show (k : Int) + ((0 : Nat) : Int) = k by omega, up_same]
    · rw [up_pl (by omega), up_ix (by omega)]
    · rw [upI_ne h2, up_pl h1]
  | succ d ih =>
    intro u k σ K X M hlu hu hk hK
    have hn := O.1
    obtain ⟨K, rfl⟩ : ∃ i, K = i + 1 := ⟨K - 1, by omega⟩
    have X1 : FlowX (upI (upI σ (t + 8) k u) t 9 ((k : Int) + 1)) t n sd c pr s := X.cg (fun a z h => by rw [upI_ne (by omega), up_pl (by omega)])
    have M1 : MsX (upI (upI σ (t + 8) k u) t 9 ((k : Int) + 1)) t n cst ln := M.cg (fun a z h => by rw [upI_ne (by omega), up_pl (by omega)])
    obtain ⟨q, q1, q2, q3⟩ := k_follower hN O S X1 M1 hb hl hd hu (by omega)
    have qn : q < n := q2.1.2.1
    obtain ⟨tl, σ', r1, r2, r3, r4, r5, r6, r7⟩ := ih q (k + 1) _ K X1 M1 (by have := q2.2.1; omega) qn (by omega) (by omega)
    refine ⟨q :: tl, σ', ?_, ⟨q2, q3, r2⟩, by rw [List.length_cons, r3], by rw [r4]; omega, fun i hi => ?_, fun j hj => ?_, fun a z h1 h2 => ?_⟩
    · refine Eq.trans ?_ r1
      show F_X1_findRoute_B90 N (loopK _ K) t u k σ = _
      unfold F_X1_findRoute_B90 F_X1_findRoute_J133
      rw [if_neg (by omega), if_neg (by omega), inb_in (by omega), inb_in (by omega), up_pl (by omega), up_pl (by omega), (M u hu).2, if_neg (by omega), ja_1 (by omega) (by omega), q1]
      rfl
    · cases i with
      | zero =>
        show σ'.1 (t + 8) ((k : Int) + ((0 : Nat) : Int)) = (u : Int)
        rw [r6 _ (by omega), up_pl (by omega), show (k : Int) + ((0 : Nat) : Int) = k by omega, up_same]
      | succ i =>
        have := r5 i (by omega)
        rw [show ((k + 1 : Nat) : Int) + (i : Int) = (k : Int) + ((i + 1 : Nat) : Int) by omega] at this
        exact this
    · rw [r6 j (by omega), up_pl (by omega), up_ix (by omega)]
    · rw [r7 a z h1 h2, upI_ne h2, up_pl h1]
/-- who leads -/
def lds (sd : Nat → Int) (s : St) (ln : Nat → Nat) (u : Nat) : Prop := sd u < 0 ∧ 0 < s.2 u ∧ 0 < ln u
def btr (cst : Nat → Int) (ln : Nat → Nat) (u v : Nat) : Prop := cst u < cst v ∨ (cst u = cst v ∧ (ln u < ln v ∨ (ln u = ln v ∧ u ≤ v)))
theorem k_start (hN : BigN N) (O : FOK n sd c pr) (X : FlowX σ t n sd c pr s) (M : MsX σ t n cst ln) : ∃ v1 : Int, F_X1_findRoute N t σ = F_X1_findRoute_J81 N t v1 σ ∧ ((v1 = -1 ∧ ∀ u, u < n → ¬ lds sd s ln u) ∨ ∃ u : Nat, v1 = u ∧ u < n ∧ lds sd s ln u ∧ ∀ v, v < n → lds sd s ln v → btr cst ln u v) := by
  have hn := O.1
  unfold F_X1_findRoute
  refine Exists.elim (loop_A (b := fun q nx => F_X1_findRoute_B4 N nx t q.1 q.2 σ) (fin := fun q => F_X1_findRoute_J81 N t q.1 σ) (N := N) (s0 := ((-1 : Int), (0 : Int))) (fun k q => q.2 = k ∧ ((q.1 = -1 ∧ ∀ u, u < k → ¬ lds sd s ln u) ∨ ∃ u : Nat, q.1 = u ∧ u < k ∧ lds sd s ln u ∧ ∀ v, v < k → lds sd s ln v → btr cst ln u v)) n (bigN hN) ⟨rfl, Or.inl ⟨rfl, fun u h => by omega⟩⟩ (fun k q hk hI => ?_) (fun q hI nx => ?_)) (fun q hq => ?_)
  rotate_right
  · obtain ⟨⟨j1, j2⟩, hx⟩ := hq
    exact ⟨q.1, hx, j2⟩
  · obtain ⟨v1, u⟩ := q
    obtain ⟨rfl, i2⟩ := hI
    have Mk := M k hk
    have unf : ∀ nx, F_X1_findRoute_B4 N nx t v1 k σ = if sd k < 0 ∧ 0 < s.2 k ∧ 0 < ln k then F_X1_findRoute_J44 N nx t v1 k 1 σ else nx (v1, (k : Int) + 1) := fun nx => by
      unfold F_X1_findRoute_B4 F_X1_findRoute_J43
      have e0 : F_X1_findRoute_J44 N nx t v1 k 0 σ = nx (v1, (k : Int) + 1) := by
        unfold F_X1_findRoute_J44 F_X1_findRoute_J75
        rw [if_pos rfl, ja_1 (by omega) (by omega)]
      rw [X.1, if_neg (by omega), inb_in (by omega), (X.2.1 k hk).1, (X.2.1 k hk).2, Mk.2, e0]
      by_cases h1 : sd k < 0
      · rw [if_neg (by omega)]
        by_cases h2 : 0 < s.2 k
        · rw [if_neg (by omega)]
          by_cases h3 : 0 < ln k
          · rw [if_neg (by omega), if_pos ⟨h1, h2, h3⟩]
          · rw [if_pos (by omega), if_neg (by omega)]
        · rw [if_pos (by omega), if_neg (by omega)]
      · rw [if_pos (by omega), if_neg (by omega)]
    by_cases hl : lds sd s ln k
    · rcases i2 with ⟨e1, e2⟩ | ⟨u, e1, e2, e3, e4⟩
      · refine ⟨((k : Int), (k : Int) + 1), ⟨by show (k : Int) + 1 = _; omega, Or.inr ⟨k, rfl, by omega, hl, fun v hv lv => ?_⟩⟩, fun nx => ?_⟩
        · by_cases z : v = k
          · subst z; exact Or.inr ⟨rfl, Or.inr ⟨rfl, Nat.le_refl _⟩⟩
          · exact absurd lv (e2 v (by omega))
        · show F_X1_findRoute_B4 N nx t v1 k σ = _
          rw [unf nx, if_pos (show sd k < 0 ∧ 0 < s.2 k ∧ 0 < ln k from hl)]
          unfold F_X1_findRoute_J44 F_X1_findRoute_J73 F_X1_findRoute_J75
          rw [if_neg (by decide), if_pos (by omega), ja_1 (by omega) (by omega)]
      · have e1 : v1 = u := e1
        subst e1
        have Mu := M u (by omega)
        have unf2 : ∀ nx, F_X1_findRoute_B4 N nx t u k σ = if cst k < cst u ∨ (cst k = cst u ∧ (ln k : Int) < ln u) then nx ((k : Int), (k : Int) + 1) else nx ((u : Int), (k : Int) + 1) := fun nx => by
          rw [unf nx, if_pos (show sd k < 0 ∧ 0 < s.2 k ∧ 0 < ln k from hl)]
          unfold F_X1_findRoute_J44 F_X1_findRoute_J73 F_X1_findRoute_J75
          rw [if_neg (by decide), if_neg (by omega), inb_in (by omega), Mk.1, Mk.2, k_better (by omega), Mu.1, Mu.2, ja_1 (by omega) (by omega)]
          show (if (if cst k < cst u ∨ (cst k = cst u ∧ (ln k : Int) < ln u) then (1 : Int) else 0) = 0 then _ else _) = _
          by_cases z : cst k < cst u ∨ (cst k = cst u ∧ (ln k : Int) < ln u)
          · rw [if_pos z, if_neg (by decide), if_pos z]
          · rw [if_neg z, if_pos rfl, if_neg z]
        by_cases z : cst k < cst u ∨ (cst k = cst u ∧ (ln k : Int) < ln u)
        · refine ⟨((k : Int), (k : Int) + 1), ⟨by show (k : Int) + 1 = _; omega, Or.inr ⟨k, rfl, by omega, hl, fun v hv lv => ?_⟩⟩, fun nx => ?_⟩
          · by_cases y : v = k
            · subst y; exact Or.inr ⟨rfl, Or.inr ⟨rfl, Nat.le_refl _⟩⟩
            · have := e4 v (by omega) lv
              unfold btr at this ⊢; omega
          · show F_X1_findRoute_B4 N nx t u k σ = _
            rw [unf2 nx, if_pos z]
        · refine ⟨((u : Int), (k : Int) + 1), ⟨by show (k : Int) + 1 = _; omega, Or.inr ⟨u, rfl, by omega, e3, fun v hv lv => ?_⟩⟩, fun nx => ?_⟩
          · by_cases y : v = k
            · subst y; unfold btr; omega
            · exact e4 v (by omega) lv
          · show F_X1_findRoute_B4 N nx t u k σ = _
            rw [unf2 nx, if_neg z]
    · refine ⟨(v1, (k : Int) + 1), ⟨by show (k : Int) + 1 = _; omega, ?_⟩, fun nx => ?_⟩
      · rcases i2 with ⟨e1, e2⟩ | ⟨u, e1, e2, e3, e4⟩
        · refine Or.inl ⟨e1, fun v hv => ?_⟩
          by_cases z : v = k
          · subst z; exact hl
          · exact e2 v (by omega)
        · refine Or.inr ⟨u, e1, by omega, e3, fun v hv lv => ?_⟩
          by_cases z : v = k
          · subst z; exact absurd lv hl
          · exact e4 v (by omega) lv
      · show F_X1_findRoute_B4 N nx t v1 k σ = _
        rw [unf nx, if_neg (show ¬ (sd k < 0 ∧ 0 < s.2 k ∧ 0 < ln k) from hl)]
  · obtain ⟨v1, u⟩ := q
    obtain ⟨rfl, -⟩ := hI
    show F_X1_findRoute_B4 N nx t v1 (n : Int) σ = _
    unfold F_X1_findRoute_B4
    rw [X.1, if_pos (Int.le_refl _)]
theorem k_findRoute (hN : BigN N) (O : FOK n sd c pr) (S : SOK n sd c pr s) (X : FlowX σ t n sd c pr s) (M : MsX σ t n cst ln) (hb : ∀ v, -2376 ≤ cst v ∧ cst v ≤ 2376) (hl : ∀ v, ln v ≤ n) (hd : Dist (GE n sd c s.1) (GW sd pr) (snkF n sd s) cst ln) : ∃ r σ', F_X1_findRoute N t σ = some (r, σ') ∧ (∀ a z, a ≠ t + 8 → ¬ (a = t ∧ z = 9) → σ'.1 a z = σ.1 a z) ∧ ((r = 0 ∧ ∀ P, ¬ Rt n sd c s P) ∨ (r = 1 ∧ ∃ P, Bst n sd c pr s P ∧ Ext (GE n sd c s.1) (GW sd pr) cst ln P ∧ 2 ≤ P.length ∧ P.length ≤ 12 ∧ σ'.1 t 9 = P.length ∧ ∀ i : Nat, i < P.length → σ'.1 (t + 8) i = (P.getD i 0 : Nat))) := by
  have hn := O.1
  obtain ⟨v1, h1, h2⟩ := k_start hN O X M
  have X1 : FlowX (upI σ t 9 0) t n sd c pr s := X.cg (fun a z h => upI_ne (by omega))
  have M1 : MsX (upI σ t 9 0) t n cst ln := M.cg (fun a z h => up_pl (by omega))
  rcases h2 with ⟨rfl, h2⟩ | ⟨u, rfl, h2, h3, h4⟩
  · refine ⟨0, upI σ t 9 0, h1.trans ?_, fun a z _ q => upI_ne q, Or.inl ⟨rfl, fun P hP => ?_⟩⟩
    · unfold F_X1_findRoute_J81
      refine loopK_for (s := fun _ => ((-1 : Int), (0 : Int), upI σ t 9 0)) 0 (bigN hN) (fun j hj => by omega) (fun nx => ?_)
      show F_X1_findRoute_B90 N nx t (-1) 0 (upI σ t 9 0) = _
      unfold F_X1_findRoute_B90 F_X1_findRoute_J140 F_X1_findRoute_J172
      rw [if_neg (by decide), if_pos (by decide), up_same, if_pos (by decide)]
    · cases P with
      | nil => exact hP.1
      | cons x r =>
        have a := hd.2 x r hP.1 hP.2.2
        exact h2 x hP.2.1.1 ⟨hP.2.1.2.1, hP.2.1.2.2, by omega⟩
  · have l1 := hl u
    have lnu : ln u ≠ 1 := fun z => by
      have := (hd.one z).2.2.1
      have := h3.1
      omega
    have l0 := h3.2.2
    obtain ⟨tl, σ', r1, r2, r3, r4, r5, r6, r7⟩ := k_path (t := t) hN O S hb hl hd (ln u - 1) u 0 (upI σ t 9 0) N X1 M1 (by omega) h2 (by omega) (by have := bigN hN (k := 100); omega)
    have len : (u :: tl).length = ln u := by rw [List.length_cons, r3]; omega
    have rd : ∀ i : Nat, i < (u :: tl).length → σ'.1 (t + 8) i = ((u :: tl).getD i 0 : Nat) := fun i hi => by
      have := r5 i (by omega)
      rwa [show ((0 : Nat) : Int) + (i : Int) = i by omega] at this
    have e9 : σ'.1 t 9 = ((u :: tl).length : Nat) := by rw [r4, len]; omega
    have wk := r2.walk hd
    have lw : lastOf (u :: tl) < n := wk.2.1.1
    refine ⟨1, σ', h1.trans (r1.trans ?_), fun a z q1 q2 => (r7 a z q1 q2).trans (upI_ne q2), Or.inr ⟨rfl, u :: tl, ⟨⟨wk.1, ⟨h2, h3.1, h3.2.1⟩, wk.2.1⟩, fun Q hQ => ?_⟩, r2, by omega, by omega, e9, rd⟩⟩
    · have last := rd ((u :: tl).length - 1) (by omega)
      rw [getD_last (by simp)] at last
      have el : js ((u :: tl).length : Int) 1 = (((u :: tl).length - 1 : Nat) : Int) := by rw [js_eq ⟨by omega, by omega⟩]; omega
      unfold F_X1_findRoute_J140
      rw [e9, if_neg (by omega), el, inb_in (by omega), last, inb_in (by omega), r7 (t + 7) _ (by omega) (by omega), up_pl (by omega), (M _ lw).2, r2.last, if_pos (show ((1 : Nat) : Int) = 1 from rfl)]
    · cases Q with
      | nil => exact absurd hQ.1 id
      | cons x r =>
        exact Ext.best hd (src := fun v => v < n ∧ sd v < 0 ∧ 0 < s.2 v) ⟨h2, h3.1, h3.2.1⟩ r2 (fun v hv z => h4 v hv.1 ⟨hv.2.1, hv.2.2, by omega⟩) x r hQ.2.1 hQ.1 hQ.2.2
end ROUTE
