/-! REACHED, the first ROUTE, what is CARRIED, the dearest LINK -/
section RCH
variable {N : Nat} {σ : Sto} {n t : Nat} {sd : Nat → Int} {c pr : Nat → Nat → Int} {s : St} {lab : Nat → List Nat}
def rlF (sd : Nat → Int) (c : Nat → Nat → Int) (s : St) : Nat → Nat → Bool := fun u v => decide (0 < pas sd c s u v)
def srB (sd : Nat → Int) (s : St) : Nat → Bool := fun u => decide (sd u < 0 ∧ 0 < s.2 u)
theorem lst_walk {S : Nat → Bool} (hS : ClS n (rlF sd c s) S) : ∀ {P : List Nat}, Wk (GE n sd c s.1) P → S (P.headD 0) = true → S (lastOf P) = true := by
  intro P
  induction P with
  | nil => intro h _; exact h.elim
  | cons u t ih =>
    intro h h0
    cases t with
    | nil => exact h0
    | cons v t =>
      have hu : u < n := (GE_iff.mp h.1).1
      have hv : v < n := (GE_iff.mp h.1).2.1
      exact ih h.2 (hS u v hu hv h0 (decide_eq_true ((GE_pas hu hv).mp h.1)))
theorem tb_srB (hn : n ≤ 32) {a : Nat} (ha : a < n) : tb (bset (srB sd s) n) a = srB sd s a := by
  rw [tb_bset hn (by omega), decide_eq_true ha, Bool.true_and]
theorem labE_cl (O : FOK n sd c pr) (L : LabE σ n sd c pr s lab) : IsCl n (rlF sd c s) (tb (bset (srB sd s) n)) (bset (fun v => decide (lab v ≠ [])) n) := by
  have hn := O.1
  refine ⟨bset_R _ _, fun i hi => ?_⟩
  rw [tb_bset (by omega) hi, Bool.and_eq_true, decide_eq_true_iff, decide_eq_true_iff]
  constructor
  · rintro ⟨h1, h2⟩
    refine ⟨h1, fun S hS0 hS => ?_⟩
    obtain ⟨f1, f2, f3, -⟩ := L.2.1.1 i h2
    have := lst_walk hS f1 (hS0 _ f3.1 (by rw [tb_srB (by omega) f3.1]; exact decide_eq_true f3.2))
    rw [f2] at this
    exact this
  · rintro ⟨h1, h2⟩
    refine ⟨h1, ?_⟩
    have := h2 (fun v => decide (lab v ≠ [])) (fun a ha q => ?_) (fun a v ha hv q1 q2 => ?_)
    · exact of_decide_eq_true this
    · rw [tb_srB (by omega) ha] at q
      have q := of_decide_eq_true q
      have := (L.2.2 [a] trivial ⟨ha, q⟩).1
      exact decide_eq_true this
    · have q1 := of_decide_eq_true q1
      have q2 := of_decide_eq_true q2
      obtain ⟨f1, f2, f3, -⟩ := L.2.1.1 a q1
      have e : GE n sd c s.1 a v := (GE_pas ha hv).mpr q2
      have w : Wk (GE n sd c s.1) (lab a ++ [v]) := (wk_snoc q1).mpr ⟨f1, by rw [f2]; exact e⟩
      have hh : (lab a ++ [v]).headD 0 = (lab a).headD 0 := by
        cases h : lab a with
        | nil => exact absurd h q1
        | cons x t => rfl
      have := (L.2.2 _ w (by rw [hh]; exact f3)).1
      rw [lastOf_snoc] at this
      exact decide_eq_true this
theorem k_neigh (hN : BigN N) (O : FOK n sd c pr) (S : SOK n sd c pr s) (X : FlowX σ t n sd c pr s) {u : Nat} (hu : u < n) : F_X1_neighboursOf N t u σ = some (bset (fun v => rlF sd c s u v) n) := by
  have hn := O.1
  unfold F_X1_neighboursOf
  refine loop_bits (b := fun q nx4 => F_X1_neighboursOf_B4 N nx4 t u q.1 q.2 σ) (c := fun v => rlF sd c s u v) (fin := fun a => some a) (bigN hN) (fun k a nx hk ha => ?_) (fun a nx => ?_)
  · show F_X1_neighboursOf_B4 N nx t u a k σ = _
    unfold F_X1_neighboursOf_B4 F_X1_neighboursOf_J27
    rw [X.1, if_neg (by omega), k_passable O S X hu hk, Option.bind_some, ja_1 (by omega) (by omega)]
    by_cases q : pas sd c s u k ≤ 0
    · have q' : ¬ rlF sd c s u k = true := fun z => by have := of_decide_eq_true z; omega
      rw [if_pos q, if_neg q']
    · have q' : rlF sd c s u k = true := decide_eq_true (by omega)
      rw [if_neg q, if_pos q']
  · show F_X1_neighboursOf_B4 N nx t u a (n : Int) σ = _
    unfold F_X1_neighboursOf_B4
    rw [X.1, if_pos (Int.le_refl _)]
theorem k_reachedBits (hN : BigN N) (O : FOK n sd c pr) (S : SOK n sd c pr s) (X : FlowX σ t n sd c pr s) : F_X1_reachedBits N t σ = some (clo n (rlF sd c s) (tb (bset (srB sd s) n))) := by
  have hn := O.1
  let nb : Nat → Int := fun u => bset (fun v => rlF sd c s u v) n
  have ok : NbOk n (rlF sd c s) nb := fun k hk => ⟨bset_R _ _, fun i hi => tb_bset (by omega) hi⟩
  have bs : BS n (bset (srB sd s) n) := ⟨bset_R _ _, fun i hi q => by rw [tb_bset (by omega) hi, Bool.and_eq_true, decide_eq_true_iff] at q; exact q.1⟩
  have inner : ∀ (v : Int) (r : Nat) nx44, r < n → loopK (fun q nx54 => F_X1_reachedBits_B54 N nx44 nx54 t (r : Int) q.1 q.2 σ) N (v, 0) = nx44 (swp nb v n, (r : Int) + 1) := fun v r nx44 hr => by
    refine loopK_for (b := fun q nx54 => F_X1_reachedBits_B54 N nx44 nx54 t (r : Int) q.1 q.2 σ) (s := fun k => (swp nb v k, (k : Int))) n (bigN hN) (fun k hk nx => ?_) (fun nx => ?_)
    · show F_X1_reachedBits_B54 N nx44 nx t r (swp nb v k) k σ = nx (if tb (swp nb v k) k = true then jor (swp nb v k) (nb k) else swp nb v k, ((k + 1 : Nat) : Int))
      unfold F_X1_reachedBits_B54 F_X1_reachedBits_J79
      have t := tb_test1 (x := swp nb v k) (k := k) (by omega)
      rw [X.1, if_neg (by omega), k_neigh hN O S X hk, ja_1 (by omega) (by omega)]
      by_cases q : tb (swp nb v k) k = true
      · rw [if_pos (t.mpr q), if_pos q]; rfl
      · rw [if_neg (fun z => q (t.mp z)), if_neg q]; rfl
    · show F_X1_reachedBits_B54 N nx44 nx t r (swp nb v n) (n : Int) σ = _
      unfold F_X1_reachedBits_B54 F_X1_reachedBits_J85
      rw [X.1, if_pos (Int.le_refl _), ja_1 (by omega) (by omega)]
  have fin : F_X1_reachedBits_J42 N t (bset (srB sd s) n) σ = some (clo n (rlF sd c s) (tb (bset (srB sd s) n))) := by
    rw [clo_eq (rnd_cl (by omega) ok bs)]
    unfold F_X1_reachedBits_J42
    refine loopK_for (b := fun q nx44 => F_X1_reachedBits_B44 N nx44 t q.1 q.2 σ) (s := fun r => (rnd nb n (bset (srB sd s) n) r, (r : Int))) n (bigN hN) (fun r hr nx => ?_) (fun nx => ?_)
    · show F_X1_reachedBits_B44 N nx t (rnd nb n (bset (srB sd s) n) r) r σ = nx (swp nb (rnd nb n (bset (srB sd s) n) r) n, ((r + 1 : Nat) : Int))
      unfold F_X1_reachedBits_B44
      rw [X.1, if_neg (by omega), inner _ r nx hr]; rfl
    · show F_X1_reachedBits_B44 N nx t (rnd nb n (bset (srB sd s) n) n) (n : Int) σ = _
      unfold F_X1_reachedBits_B44
      rw [X.1, if_pos (Int.le_refl _)]
  rw [← fin]
  unfold F_X1_reachedBits
  refine loop_bits (b := fun q nx4 => F_X1_reachedBits_B4 N nx4 t q.1 q.2 σ) (c := srB sd s) (fin := fun a => F_X1_reachedBits_J42 N t a σ) (bigN hN) (fun k a nx hk ha => ?_) (fun a nx => ?_)
  · show F_X1_reachedBits_B4 N nx t a k σ = _
    unfold F_X1_reachedBits_B4 F_X1_reachedBits_J36
    rw [X.1, if_neg (by omega), inb_in (by omega), (X.2.1 k hk).1, (X.2.1 k hk).2, ja_1 (by omega) (by omega)]
    by_cases q1 : 0 ≤ sd k
    · have q' : ¬ srB sd s k = true := fun z => by have := of_decide_eq_true z; omega
      rw [if_pos q1, if_neg q']
    · rw [if_neg q1]
      by_cases q2 : s.2 k ≤ 0
      · have q' : ¬ srB sd s k = true := fun z => by have := of_decide_eq_true z; omega
        rw [if_pos q2, if_neg q']
      · have q' : srB sd s k = true := decide_eq_true (by omega)
        rw [if_neg q2, if_pos q']
  · show F_X1_reachedBits_B4 N nx t a (n : Int) σ = _
    unfold F_X1_reachedBits_B4
    rw [X.1, if_pos (Int.le_refl _)]
end RCH
section RCH2
variable {N : Nat} {σ : Sto} {b : Nat} {D : Dk}
noncomputable abbrev fD (D : Dk) : St := fE D (gD D) (cD D) (D.2 5) G0
abbrev cDD (D : Dk) : Nat → Nat → Int := pC D (gD D) (cD D) (D.2 5) G0
noncomputable def rReached (D : Dk) : Int := clo (dp D) (rlF (pS D G0) (cDD D) (fD D)) (tb (bset (srB (pS D G0) (fD D)) (dp D)))
theorem x_reached (hN : BigN N) (V : Val D) (K : GdD D) (X : XC σ b D) : QX σ b D (F_X11_reached N σ) (rReached D) := by
  obtain ⟨σ2, b1, b2, b3, b4, b5, -⟩ := k_refreshFlow hN V K X
  unfold F_X11_reached rReached
  rw [b1, Option.bind_some, k_reachedBits hN (p_fok V V.fok K) (b5.1.1.1 _ (Nat.le_refl _)) b5.2.1]
  exact ⟨σ2, rfl, b2, b3⟩
theorem m_reached (hN : BigN N) (V : Val D) (K : GdD D) (R : RD D) (M : MK σ D) : QM σ D (F_X12_reached N σ) (rReached D) := by
  have vz := V.sz
  obtain ⟨M', m'⟩ := M.up2 V 0
  obtain ⟨σ1, a1, a2, a3, a4, a5⟩ := m_solves hN V K M' R
  obtain ⟨σ2, lab, b1, b2, b3⟩ := m_laysRoutes hN V a2.1 (p_prb (g := gD D) (c := cD D) (F := D.2 5) (G := G0) V) (p_fok V V.fok K) (R.1.1 _ (Nat.le_refl _)) (Zr_sq (p_zr V K) R.1 _ (Nat.le_refl _)) a4
  have f2 := fr_X12_laysRoutes b1
  have m2 : MO σ1 σ2 := ⟨fun a j h => b2 a j (by omega), fun j => f2.2 49 j (fun z => by unfold Wr_X12_laysRoutes at z; omega)⟩
  have M2 := a2.cg V m2
  unfold F_X12_reached
  rw [a1, Option.bind_some, b1, Option.bind_some]
  refine ⟨σ2, ?_, M2, (m'.tr a3).tr m2⟩
  have er : rReached D = bset (fun v => decide (lab v ≠ [])) (dp D) := clo_eq (labE_cl (p_fok V V.fok K) b3)
  rw [er]
  have e14 : σ2.1 94 14 = dp D := M2.1.1.1.2.1
  refine loop_bits (b := fun q nx18 => F_X12_reached_B18 N nx18 q.1 q.2 σ2) (c := fun v => decide (lab v ≠ [])) (fin := fun a => some (a, σ2)) (bigN hN) (fun k a nx hk ha => ?_) (fun a nx => ?_)
  · show F_X12_reached_B18 N nx a k σ2 = _
    unfold F_X12_reached_B18 F_X12_reached_J43
    rw [e14, if_neg (by omega), inb_in (by omega), (b3.1 k hk).2.1, ja_1 (by omega) (by omega), jor_0 ha]
    by_cases q : lab k = []
    · have q' : ¬ decide (lab k ≠ []) = true := fun z => of_decide_eq_true z q
      rw [q, if_pos (by decide), if_neg (by simp)]
    · have q' : decide (lab k ≠ []) = true := decide_eq_true q
      have := len_nz q
      rw [if_neg (by omega), if_pos q']
  · show F_X12_reached_B18 N nx a (dp D : Int) σ2 = _
    unfold F_X12_reached_B18
    rw [e14, if_pos (Int.le_refl _)]
/-! the first ROUTE -/
noncomputable abbrev nP (D : Dk) : List Nat := nxP (dp D) (pS D G0) (cDD D) (pP D (cD D) (D.2 5)) (fun _ _ => 0, pL D G0)
noncomputable def rRoute (D : Dk) (k : Int) : Int := if 0 ≤ k then (if mE D (gD D) (cD D) (D.2 5) G0 = 0 then -2 else if k < (nP D).length then ((nP D).getD k.toNat 0 : Nat) else -2) else -1
theorem nP_ok (V : Val D) (R : RD D) (h : mE D (gD D) (cD D) (D.2 5) G0 ≠ 0) : Bst (dp D) (pS D G0) (cDD D) (pP D (cD D) (D.2 5)) (fun _ _ => 0, pL D G0) (nP D) ∧ (nP D).length ≤ 12 := by
  have vz := V.sz
  obtain ⟨P, h1, h2⟩ := R.1.2 0 (by omega)
  have h1 : Bst (dp D) (pS D G0) (cDD D) (pP D (cD D) (D.2 5)) (fun _ _ => 0, pL D G0) P := h1
  have e : nP D = P := nxP_eq h1
  rw [e]
  have := nodup_le h2 h1.1.lt
  exact ⟨h1, by omega⟩
theorem x_route (hN : BigN N) (V : Val D) (K : GdD D) (X : XC σ b D) (k : Int) : QX σ b D (F_X11_route N k σ) (rRoute D k) := by
  unfold F_X11_route rRoute
  by_cases h : 0 ≤ k
  · obtain ⟨σ2, b1, b2, b3, b4, b5, -⟩ := k_refreshFlow hN V K X
    rw [if_pos h, if_pos h, b1, Option.bind_some]
    by_cases h0 : mE D (gD D) (cD D) (D.2 5) G0 = 0
    · rw [if_pos h0, b5.2.2.2.2.1 h0, if_pos h]
      exact ⟨σ2, rfl, b2, b3⟩
    · have F := b5.2.2.2.2.2 (by omega)
      have F1 : σ2.1 58 10 = ((nP D).length : Nat) := F.1
      have F2 : ∀ i : Nat, i < (nP D).length → σ2.1 67 i = ((nP D).getD i 0 : Nat) := F.2
      have l := (nP_ok V b5.ends h0).2
      rw [if_neg h0, F1]
      by_cases q : k < (nP D).length
      · rw [if_neg (by omega), if_pos q, inb_in (by omega)]
        have e := F2 k.toNat (by omega)
        rw [show ((k.toNat : Nat) : Int) = k by omega] at e
        rw [e]
        exact ⟨σ2, rfl, b2, b3⟩
      · rw [if_pos (by omega), if_neg q]
        exact ⟨σ2, rfl, b2, b3⟩
  · rw [if_neg h, if_neg h]
    exact QX.same X rfl
theorem m_route (hN : BigN N) (V : Val D) (K : GdD D) (R : RD D) (M : MK σ D) (k : Int) : QM σ D (F_X12_route N k σ) (rRoute D k) := by
  have vz := V.sz
  obtain ⟨M', m'⟩ := M.up2 V 0
  unfold F_X12_route rRoute
  by_cases h : 0 ≤ k
  · rw [if_pos h, if_pos h, inb_in (by omega), M'.1.1.1.2.2.1]
    obtain ⟨σ1, a1, a2, a3⟩ := m_laysAll (G := G0) (cl := 1) (D' := D) hN V M'.1 (gD D) (fun p hp => by
      have w := (V.per (p := p) (by omega) (by omega)).1
      rw [M'.2.2.1]
      exact (decide_eq_false (by omega)).symm) (Or.inl ⟨rfl, rfl, fun k _ => ⟨rfl, rfl⟩⟩)
    have f1 := fr_X12_laysAll a1
    have m1 : MO (upI σ 94 2 0) σ1 := ⟨fun a j h => f1.1 a j (fun z => by unfold Wr_X12_laysAll at z; omega), fun j => f1.2 49 j (fun z => by unfold Wr_X12_laysAll at z; omega)⟩
    have M1 := M'.cg V m1
    rw [a1, Option.bind_some]
    obtain ⟨s, ⟨c1, c2, c3⟩, c4⟩ := loop_A (b := fun q nx24 => F_X12_route_B24 N nx24 k q.1 q.2) (fin := fun s => F_X12_route_J44 N k s.2) (N := N) (s0 := ((0 : Int), σ1)) (fun i s => s.1 = i ∧ (∀ a j, a ≠ 107 → s.2.1 a j = σ1.1 a j) ∧ (∀ j : Nat, j < i → s.2.1 107 j = 0) ∧ s.2.2 = σ1.2) 144 (bigN hN) ⟨rfl, fun _ _ _ => rfl, fun j h => by omega, rfl⟩ (fun i s hi hI => by
      obtain ⟨v, τ⟩ := s
      obtain ⟨i1, i2, i3, i4⟩ := hI
      have i1 : v = i := i1
      subst i1
      refine ⟨((i : Int) + 1, upI τ 107 i 0), ⟨by show (i : Int) + 1 = ((i + 1 : Nat) : Int); omega, fun a j h => (up_pl h).trans (i2 a j h), fun j hj => ?_, i4⟩, fun nx => ?_⟩
      · show (upI τ 107 i 0).1 107 j = 0
        rw [upI_at]
        split
        · rfl
        · exact i3 j (by omega)
      · show F_X12_route_B24 N nx k i τ = _
        unfold F_X12_route_B24
        rw [if_neg (by omega), inb_in (by omega), ja_1 (by omega) (by omega)]) (fun s hI nx => by
      obtain ⟨v, τ⟩ := s
      have i1 : v = ((144 : Nat) : Int) := hI.1
      show F_X12_route_B24 N nx k v τ = F_X12_route_J44 N k τ
      unfold F_X12_route_B24
      rw [i1, if_pos (by omega)])
    rw [c4]
    have m2 : MO σ1 s.2 := ⟨fun a j h => c2 a j (by omega), fun j => by rw [c3.2]⟩
    have M2 := M1.cg V m2
    have FM : FlowM s.2 (dp D) (cDD D) (fun _ _ => 0, pL D G0) := ⟨fun i hi => by rw [c2 _ _ (by decide)]; exact a2 i hi, fun i j hi hj => by
      show _ = cDD D i j - 0
      rw [c2 _ _ (by decide), a3 i j hi hj, Int.sub_zero], fun i j hi hj => by
      have := c3.1 (12 * i + j) (by omega)
      rw [show ((12 * i + j : Nat) : Int) = 12 * (i : Int) + j by omega] at this
      exact this⟩
    obtain ⟨σ2, lab, b1, b2, b3⟩ := m_laysRoutes hN V M2.1 (p_prb (g := gD D) (c := cD D) (F := D.2 5) (G := G0) V) (p_fok V V.fok K) (p_sok V V.fok K) (p_zr V K) FM
    have f2 := fr_X12_laysRoutes b1
    have m3 : MO s.2 σ2 := ⟨fun a j h => b2 a j (by omega), fun j => f2.2 49 j (fun z => by unfold Wr_X12_laysRoutes at z; omega)⟩
    have M3 := M2.cg V m3
    obtain ⟨r, r1, r2⟩ := m_bestEnd hN V M3.1 (p_prb (g := gD D) (c := cD D) (F := D.2 5) (G := G0) V) (p_fok V V.fok K) (p_sok V V.fok K) (p_zr V K) (FM.cg (fun a j h => b2 a j (by omega))) b3
    show QM σ D (F_X12_route_J44 N k s.2) _
    unfold F_X12_route_J44 F_X12_route_J67
    rw [b1, Option.bind_some, r1, Option.bind_some]
    have mm := ((m'.tr m1).tr m2).tr m3
    rcases r2 with ⟨r2, r3⟩ | ⟨e, r2, r3, r4, r5, r6, r7⟩
    · have h0 : mE D (gD D) (cD D) (D.2 5) G0 = 0 := by
        rcases Nat.eq_zero_or_pos (mE D (gD D) (cD D) (D.2 5) G0) with z | z
        · exact z
        · exact absurd (nP_ok V R (by omega)).1.1 (r3 _)
      rw [if_pos h0, r2, if_pos (by omega)]
      exact ⟨σ2, rfl, M3, mm⟩
    · have h0 : mE D (gD D) (cD D) (D.2 5) G0 ≠ 0 := fun z => by
        have := R.2 (lab e)
        rw [z] at this
        exact this r7.1
      have ep : nP D = lab e := nxP_eq r7
      have l := (nP_ok V R h0).2
      rw [if_neg h0, r2, if_neg (by omega), inb_in (by omega), (b3.1 e r3).2.1, ep]
      rw [ep] at l
      by_cases q : k < (lab e).length
      · have ix : ja (jm 12 (e : Int)) k = 12 * e + k := ix12' (by omega) (by omega) (by omega) (by omega)
        have ev := (b3.1 e r3).2.2 k.toNat (by omega)
        rw [show ((k.toNat : Nat) : Int) = k by omega] at ev
        rw [if_pos q, if_pos q, ix, inb_in (by omega), ev]
        exact ⟨σ2, rfl, M3, mm⟩
      · rw [if_neg q, if_neg q]
        exact ⟨σ2, rfl, M3, mm⟩
  · rw [if_neg h, if_neg h]
    exact QM.same V M rfl
end RCH2
