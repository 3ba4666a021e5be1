/-! WITHDRAW, RESULT -/
theorem sum_rm {f : Int → Int} {c : Nat} : ∀ {n : Nat}, c ≤ n → sumTo (fun x => if x < (c : Int) then f x else f (x + 1)) n = sumTo f (n + 1) - f c := by
  intro n
  induction n with
  | zero =>
    intro h
    have e : c = 0 := by omega
    subst e
    show (0 : Int) = 0 + f ((0 : Nat) : Int) - f ((0 : Nat) : Int)
    omega
  | succ n ih =>
    intro h
    by_cases e : c = n + 1
    · subst e
      show sumTo (fun x => if x < ((n + 1 : Nat) : Int) then f x else f (x + 1)) (n + 1) = (sumTo f (n + 1) + f ((n + 1 : Nat) : Int)) - f ((n + 1 : Nat) : Int)
      rw [sumTo_congr (g := f) (fun k hk => if_pos (by omega))]
      omega
    · show sumTo (fun x => if x < (c : Int) then f x else f (x + 1)) n + (if (n : Int) < (c : Int) then f n else f ((n : Int) + 1)) = (sumTo f (n + 1) + f ((n + 1 : Nat) : Int)) - f c
      rw [ih (by omega), if_neg (by omega), show ((n + 1 : Nat) : Int) = (n : Int) + 1 by omega]
      omega
def rmC (D : Dk) (c : Nat) : Dk := ((dm D, dp D, dn D, dc D - 1), fun r x => if 12 ≤ r ∧ (c : Int) ≤ x then D.2 r (x + 1) else D.2 r x)
theorem rmC_row {D : Dk} {c r : Nat} (h : r < 12) : (rmC D c).2 r = D.2 r := by
  funext x
  show (if 12 ≤ r ∧ (c : Int) ≤ x then _ else D.2 r x) = D.2 r x
  rw [if_neg (by omega)]
theorem rmC_sm (D : Dk) (c : Nat) : Sm D (rmC D c) := ⟨⟨rfl, rfl, rfl⟩, fun _ h => rmC_row h⟩
theorem rmC_lo {D : Dk} {c r : Nat} {x : Int} (h : x < c) : (rmC D c).2 r x = D.2 r x := if_neg (by omega)
theorem rmC_hi {D : Dk} {c r : Nat} {x : Int} (hr : 12 ≤ r) (h : (c : Int) ≤ x) : (rmC D c).2 r x = D.2 r (x + 1) := if_pos ⟨hr, h⟩
section RM
variable {N : Nat} {σ : Sto} {b : Nat} {D : Dk} {c : Nat}
theorem takOf_rm (hc : c < dc D) (p : Int) : takOf (rmC D c) p = takOf D p - takF D p c := by
  unfold takOf
  show sumTo (takF (rmC D c) p) (dc D - 1) = _
  rw [sumTo_congr (g := fun x => if x < (c : Int) then takF D p x else takF D p (x + 1)) (fun k hk => by
    unfold takF
    by_cases q : (k : Int) < c
    · rw [rmC_lo q, rmC_lo q, rmC_lo q, if_pos q]
    · rw [rmC_hi (by decide) (by omega), rmC_hi (by decide) (by omega), rmC_hi (by decide) (by omega), if_neg q]), sum_rm (by omega), show dc D - 1 + 1 = dc D by omega]
theorem takOn_rm (hc : c < dc D) (x y : Int) : takOn (rmC D c) x y = takOn D x y - tonF D x y c := by
  unfold takOn
  show sumTo (tonF (rmC D c) x y) (dc D - 1) = _
  rw [sumTo_congr (g := fun z => if z < (c : Int) then tonF D x y z else tonF D x y (z + 1)) (fun k hk => by
    unfold tonF
    by_cases q : (k : Int) < c
    · rw [rmC_lo q, rmC_lo q, rmC_lo q, if_pos q]
    · rw [rmC_hi (by decide) (by omega), rmC_hi (by decide) (by omega), rmC_hi (by decide) (by omega), if_neg q]), sum_rm (by omega), show dc D - 1 + 1 = dc D by omega]
theorem rm_val (V : Val D) (hc : c < dc D) : Val (rmC D c) := by
  have vz := V.sz
  refine ⟨⟨vz.1, vz.2.1, vz.2.2.1, by show dc D - 1 ≤ 30; omega⟩, ?_, ?_, ?_, ?_, fun k k0 k1 => ?_⟩
  · rw [rmC_row (by decide)]; exact V.sc
  · rw [rmC_row (by decide), rmC_row (by decide)]; exact V.2.2.1
  · rw [rmC_row (by decide), rmC_row (by decide), rmC_row (by decide), rmC_row (by decide)]; exact V.2.2.2.1
  · rw [rmC_row (by decide), rmC_row (by decide), rmC_row (by decide), rmC_row (by decide)]; exact V.2.2.2.2.1
  · have k1 : k < ((dc D - 1 : Nat) : Int) := k1
    by_cases q : k < c
    · rw [rmC_lo q, rmC_lo q, rmC_lo q]; exact V.clm k0 (by omega)
    · rw [rmC_hi (by decide) (by omega), rmC_hi (by decide) (by omega), rmC_hi (by decide) (by omega)]; exact V.clm (by omega) (by omega)
theorem rm_gd (V : Val D) (K : GdD D) (hc : c < dc D) : GdD (rmC D c) := by
  have S := rmC_sm D c
  have vz := V.sz
  show Gd (rmC D c) (gD (rmC D c)) (cD (rmC D c)) ((rmC D c).2 5)
  rw [S.g.1, S.g.2.1, S.g.2.2]
  refine ⟨fun k hk => ?_, fun x y h => ?_, fun p p0 p1 => ?_⟩
  · have hk : k < dc D - 1 := hk
    rw [S.sim.lnk']
    by_cases q : (k : Int) < c
    · rw [rmC_lo q, rmC_lo q]; exact K.1 k (by omega)
    · rw [rmC_hi (by decide) (by omega), rmC_hi (by decide) (by omega)]
      have := K.1 (k + 1) (by omega)
      rw [show ((k + 1 : Nat) : Int) = (k : Int) + 1 by omega] at this
      exact this
  · rw [S.sim.lnk'] at h
    rw [takOn_rm hc, S.sim.bnd']
    have := K.2.1 x y h
    have := (tonF_bd V x y c hc).1
    omega
  · have := K.2.2 p p0 p1
    have t := (takF_bd V p c hc).1
    unfold opn at this ⊢
    rw [takOf_rm hc, rmC_row (by decide)]
    omega
theorem k_remove (hN : BigN N) (V : Val D) (hc : c < dc D) (L : LedR σ 29 D) : ∃ σ', F_X5_remove N 29 c σ = some σ' ∧ LedR σ' 29 (rmC D c) ∧ (∀ a z, ¬ (29 ≤ a ∧ a ≤ 32) → σ'.1 a z = σ.1 a z) ∧ σ'.2 = σ.2 := by
  have vz := V.sz
  unfold F_X5_remove
  rw [k_has L, Option.bind_some, if_pos (show 0 ≤ (c : Int) ∧ (c : Int) < dc D by omega), if_neg (by decide), L.1, js_eq ⟨by omega, by omega⟩]
  obtain ⟨s, ⟨h1, h2, h3, h4, h5⟩, h6⟩ := loop_A (b := fun q nx21 => F_X5_remove_B21 N nx21 29 q.1 q.2) (fin := fun s => some s.2) (N := N) (s0 := ((c : Int), upI σ 29 3 ((dc D : Int) - 1))) (fun k s => s.1 = (c : Int) + k ∧ s.2.1 29 3 = (dc D : Int) - 1 ∧ (∀ a z, ¬ (29 ≤ a ∧ a ≤ 32) → s.2.1 a z = σ.1 a z) ∧ (∀ y : Nat, 30 ≤ y → y ≤ 32 → ∀ x : Int, s.2.1 y x = if (c : Int) ≤ x ∧ x < (c : Int) + k then σ.1 y (x + 1) else σ.1 y x) ∧ s.2.2 = σ.2) (dc D - 1 - c) (bigN hN) ⟨by omega, up_same, fun a z q => upI_ne (by omega), fun y y1 y2 x => by rw [if_neg (by omega)]; exact up_pl (by omega), rfl⟩ (fun k s hk hI => by
    obtain ⟨v, τ⟩ := s
    obtain ⟨i1, i2, i3, i4, i5⟩ := hI
    have i1 : v = ((c + k : Nat) : Int) := by have : v = (c : Int) + k := i1; omega
    generalize hq : c + k = q at *
    subst i1
    have i2 : τ.1 29 3 = (dc D : Int) - 1 := i2
    have i4 : ∀ y : Nat, 30 ≤ y → y ≤ 32 → ∀ x : Int, τ.1 y x = if (c : Int) ≤ x ∧ x < (c : Int) + k then σ.1 y (x + 1) else σ.1 y x := i4
    have rd : ∀ y : Nat, 30 ≤ y → y ≤ 32 → τ.1 y ((q : Int) + 1) = σ.1 y ((q : Int) + 1) := fun y a1 a2 => by rw [i4 y a1 a2, if_neg (by omega)]
    refine ⟨((q : Int) + 1, upI (upI (upI τ 30 q (σ.1 30 ((q : Int) + 1))) 31 q (σ.1 31 ((q : Int) + 1))) 32 q (σ.1 32 ((q : Int) + 1))), ⟨by show (q : Int) + 1 = (c : Int) + ((k + 1 : Nat) : Int); omega, ?_, fun a z p => ?_, fun y a1 a2 x => ?_, i5⟩, fun nx => ?_⟩
    · show (upI (upI (upI τ 30 q _) 31 q _) 32 q _).1 29 3 = _
      rw [up_pl (by decide), up_pl (by decide), up_pl (by decide)]; exact i2
    · show (upI (upI (upI τ 30 q _) 31 q _) 32 q _).1 a z = _
      rw [up_pl (by omega), up_pl (by omega), up_pl (by omega)]; exact i3 a z p
    · show (upI (upI (upI τ 30 q _) 31 q _) 32 q _).1 y x = _
      by_cases e : x = q
      · subst e
        rw [if_pos ⟨by omega, by omega⟩]
        rcases (by omega : y = 30 ∨ y = 31 ∨ y = 32) with rfl | rfl | rfl
        · rw [up_pl (by decide), up_pl (by decide), up_same]
        · rw [up_pl (by decide), up_same]
        · rw [up_same]
      · rw [up_ix e, up_ix e, up_ix e, i4 y a1 a2]
        by_cases z : (c : Int) ≤ x ∧ x < (c : Int) + k
        · rw [if_pos z, if_pos ⟨z.1, by omega⟩]
        · rw [if_neg z, if_neg (by omega)]
    · show F_X5_remove_B21 N nx 29 q τ = _
      unfold F_X5_remove_B21
      have u1 : ∀ (w z : Int), (upI τ 30 q w).1 31 z = τ.1 31 z := fun _ _ => up_pl (by decide)
      have u2 : ∀ (w w' z : Int), (upI (upI τ 30 q w) 31 q w').1 32 z = τ.1 32 z := fun _ _ _ => by rw [up_pl (by decide), up_pl (by decide)]
      rw [i2, if_neg (by omega), ja_1 (by omega) (by omega), inb_in (by omega), inb_in (by omega)]
      show nx ((q : Int) + 1, upI (upI (upI τ 30 q (τ.1 30 ((q : Int) + 1))) 31 q ((upI τ 30 q (τ.1 30 ((q : Int) + 1))).1 31 ((q : Int) + 1))) 32 q ((upI (upI τ 30 q (τ.1 30 ((q : Int) + 1))) 31 q ((upI τ 30 q (τ.1 30 ((q : Int) + 1))).1 31 ((q : Int) + 1))).1 32 ((q : Int) + 1))) = _
      rw [u2, u1, rd 30 (by decide) (by decide), rd 31 (by decide) (by decide), rd 32 (by decide) (by decide)]) (fun s hI nx => by
    obtain ⟨v, τ⟩ := s
    have i1 : v = (c : Int) + ((dc D - 1 - c : Nat) : Int) := hI.1
    have i2 : τ.1 29 3 = (dc D : Int) - 1 := hI.2.1
    show F_X5_remove_B21 N nx 29 v τ = some τ
    unfold F_X5_remove_B21
    rw [i2, if_pos (by omega)])
  refine ⟨s.2, h6, ⟨?_, fun k k0 k1 => ?_⟩, h3, h5⟩
  · rw [h2]; show (dc D : Int) - 1 = ((dc D - 1 : Nat) : Int); omega
  · have k1 : k < ((dc D - 1 : Nat) : Int) := k1
    show s.2.1 30 k = _ ∧ s.2.1 31 k = _ ∧ s.2.1 32 k = _
    rw [h4 30 (by decide) (by decide), h4 31 (by decide) (by decide), h4 32 (by decide) (by decide)]
    by_cases q : k < c
    · rw [rmC_lo q, rmC_lo q, rmC_lo q, if_neg (by omega), if_neg (by omega), if_neg (by omega)]
      exact L.2 k k0 (by omega)
    · rw [rmC_hi (by decide) (by omega), rmC_hi (by decide) (by omega), rmC_hi (by decide) (by omega), if_pos (by omega), if_pos (by omega), if_pos (by omega)]
      exact L.2 (k + 1) (by omega) (by omega)
theorem inv_rm (V : Val D) (hc : c < dc D) : InvR 1 c (D.2 12 c) (D.2 13 c) (D.2 14 c) (rmC D c) D := by
  refine Or.inr (Or.inl ⟨rfl, ⟨by show dc D = dc D - 1 + 1; omega, by omega, by show (c : Int) ≤ ((dc D - 1 : Nat) : Int); omega, ⟨rfl, rfl, rfl⟩, fun x x0 x1 => ?_, fun x x0 x1 => ?_⟩, ⟨rfl, fun x _ _ => ?_⟩, fun p _ _ => ?_⟩)
  · rw [rmC_lo x1, rmC_lo x1, rmC_lo x1]; exact ⟨rfl, rfl, rfl⟩
  · rw [rmC_hi (by decide) (by omega), rmC_hi (by decide) (by omega), rmC_hi (by decide) (by omega), show x - 1 + 1 = x by omega]; exact ⟨rfl, rfl, rfl⟩
  · rw [rmC_row (by decide), rmC_row (by decide), rmC_row (by decide), rmC_row (by decide)]; exact ⟨rfl, rfl, rfl, rfl⟩
  · rw [rmC_row (by decide)]
def rWithdraw (D : Dk) (k : Int) : Int := if isC D k then D.2 14 k else -1
/-- a push, through what comes behind it -/
theorem PshX.cg {σ0 σ1 σ2 : Sto} {σ : Sto} {k a b c d : Int} (h : PshX σ0 σ1 k a b c d) (e0 : ∀ y z, y = 33 ∨ y = 34 → σ0.1 y z = σ.1 y z) (e1 : ∀ y z, y = 33 ∨ y = 34 → σ2.1 y z = σ1.1 y z) : PshX σ σ2 k a b c d := by
  intro u hu h'
  have q := h u hu (by rw [e0 _ _ (by omega)]; exact h')
  refine ⟨by rw [e1 _ _ (by omega)]; exact q.1, ?_, fun i hi x x0 x1 => ?_⟩
  · show σ2.1 34 _ = _ ∧ σ2.1 34 _ = _ ∧ σ2.1 34 _ = _ ∧ σ2.1 34 _ = _ ∧ σ2.1 34 _ = _
    rw [e1 _ _ (by omega), e1 _ _ (by omega), e1 _ _ (by omega), e1 _ _ (by omega), e1 _ _ (by omega)]
    exact q.2.1
  · show σ2.1 34 _ = σ.1 34 _
    rw [e1 _ _ (by omega), ← e0 _ _ (by omega)]
    exact q.2.2 i hi x x0 x1
theorem PshM.cg {σ0 σ1 σ2 : Sto} {σ : Sto} (h : PshM σ0 σ1) (e25 : σ0.1 94 25 = σ.1 94 25) (e0 : ∀ z, ¬ (200 ≤ z ∧ z < 400) → σ0.1 101 z = σ.1 101 z) (f25 : σ2.1 94 25 = σ1.1 94 25) (e1 : ∀ z, 600 ≤ z → σ2.1 101 z = σ1.1 101 z) : PshM σ σ2 := by
  intro u hu h'
  have q := h u hu (by rw [e25]; exact h')
  refine ⟨by rw [f25]; exact q.1, fun x x0 x1 => ?_, fun i hi x x0 x1 => ?_⟩
  · rw [e1 _ (by omega), q.2.1 x x0 x1]; exact e0 _ (by omega)
  · rw [e1 _ (by omega), q.2.2 i hi x x0 x1]; exact e0 _ (by omega)
theorem x_withdraw (hN : BigN N) (V : Val D) (X : XC σ b D) {u : Nat} (hu : u ≤ 20) (h33 : σ.1 33 1 = u) (k : Int) : ∃ σ1, F_X11_withdraw N k σ = some (rWithdraw D k, σ1) ∧ FX σ σ1 ∧ ((¬ isC D k ∧ XC σ1 b D ∧ RO σ σ1) ∨ (isC D k ∧ XC σ1 b (rmC D k.toNat) ∧ PshX σ σ1 1 k (D.2 12 k) (D.2 13 k) (D.2 14 k))) := by
  have vz := V.sz
  have L := X.2.2.2.1
  unfold F_X11_withdraw rWithdraw
  rw [k_has L, Option.bind_some]
  by_cases h : isC D k
  · obtain ⟨c, rfl⟩ : ∃ c : Nat, k = c := ⟨k.toNat, by omega⟩
    have l := L.2 c h.1 h.2
    have l1 : σ.1 30 (c : Int) = D.2 12 c := l.1
    have l2 : σ.1 31 (c : Int) = D.2 13 c := l.2.1
    have l3 : σ.1 32 (c : Int) = D.2 14 c := l.2.2
    rw [if_pos h, if_neg (by decide), inb_in (by omega), l1, l2, l3, if_pos h]
    obtain ⟨σ1, p1, p2, p3, p4⟩ := k_push hN hu h33 1 c (D.2 12 c) (D.2 13 c) (D.2 14 c)
    obtain ⟨σ2, d1, d2, d3, d4⟩ := k_remove (N := N) (σ := σ1) hN V (c := c) (by omega) (L.cg (fun a z q1 q2 => p3 a z (by omega) (by omega)))
    have fr : ∀ a z, ¬ (29 ≤ a ∧ a ≤ 34) → ¬ (a = 0 ∧ z = 17) → (upI σ2 0 17 0).1 a z = σ.1 a z := fun a z q1 q2 => by rw [upI_ne q2, d3 a z (by omega), p3 a z (by omega) (by omega)]
    rw [p1, Option.bind_some, d1, Option.bind_some]
    refine ⟨_, rfl, fun a z q => fr a z (by omega) (by omega), Or.inr ⟨h, ?_, ?_⟩⟩
    · rw [Int.toNat_natCast]
      exact X.mut (rmC_sm D c) (d2.cg (fun a z q1 q2 => up_pl (by omega))) (fun a z q => fr a z (by omega) (by omega)) (fun z => by show σ2.2 49 z = _; rw [d4, p4]) up_same
    · exact p2.cg (fun _ _ _ => rfl) (fun y z q => by rw [up_pl (by omega), d3 y z (by omega)])
  · rw [if_neg h, if_pos rfl, if_neg h]
    exact ⟨σ, rfl, FX.ro RO.rf, Or.inl ⟨h, X, RO.rf⟩⟩
theorem m_withdraw (hN : BigN N) (V : Val D) (M : MK σ D) {u : Nat} (hu : u ≤ 20) (h25 : σ.1 94 25 = u) (k : Int) : ∃ σ1, F_X12_withdraw N k σ = some (rWithdraw D k, σ1) ∧ FM σ σ1 ∧ ((¬ isC D k ∧ MK σ1 D ∧ MO σ σ1) ∨ (isC D k ∧ MK σ1 (rmC D k.toNat) ∧ PshM σ σ1)) := by
  have vz := V.sz
  obtain ⟨M', m'⟩ := M.up2 V 0
  unfold F_X12_withdraw rWithdraw
  rw [m_isClaim M'.1, Option.bind_some]
  by_cases h : isC D k
  · obtain ⟨c, rfl⟩ : ∃ c : Nat, k = c := ⟨k.toNat, by omega⟩
    have hcl : c < dc D := by omega
    have h25' : (upI σ 94 2 0).1 94 25 = u := by rw [up_ix (by decide)]; exact h25
    obtain ⟨σ2, b1, b2, b3, b4⟩ := m_canUndo hN hu h25'
    have g24 : σ2.1 94 24 = 0 := (b3 _ _ (by omega) (by omega)).trans M'.2.1
    have B2 : BkM σ2 0 D := M'.b0.cg (fun z _ _ => b3 _ _ (by omega) (by omega)) V
    obtain ⟨⟨q1, q2⟩, q3, q4, q5⟩ := B2
    rw [show (200 : Int) * 0 = 0 by omega] at q1
    have ix : ja 1 (jm 3 (c : Int)) = 1 + 3 * c := i3 (by omega) (by omega)
    have o2 : F_X12_of N (1 + 3 * (c : Int) + 2) σ2 = some (D.2 14 c) := by rw [m_ofr (Or.inl rfl) g24 (by omega) (by omega), (q3 c h.1 h.2).2.2]
    have o0 : F_X12_of N 0 σ2 = some (dc D : Int) := by rw [m_ofr (Or.inl rfl) g24 (by omega) (by omega), show (200 : Int) * 0 + 0 = 0 by omega, q1]
    rw [if_pos h, if_neg (by decide), if_pos h, b1, Option.bind_some, ix, ja_eq ⟨by omega, by omega⟩, o2, Option.bind_some, o0, Option.bind_some, js_eq ⟨by omega, by omega⟩, m_lay (Or.inl rfl) g24 (by omega) (by omega), Option.bind_some, show (200 : Int) * 0 + 0 = 0 by omega]
    have sl : ∀ (τ : Sto), (∀ a z, ¬ (a = 101 ∧ 1 ≤ z ∧ z ≤ 90) → τ.1 a z = (upI σ2 101 0 ((dc D : Int) - 1)).1 a z) → τ.1 94 24 = 0 ∧ τ.1 101 0 = (dc D : Int) - 1 := fun τ ht => ⟨by rw [ht _ _ (by omega), up_pl (by decide)]; exact g24, by rw [ht _ _ (by omega), up_same]⟩
    obtain ⟨s, ⟨h1, h2, h3, h4⟩, h5⟩ := loop_A (b := fun q nx49 => F_X12_withdraw_B49 N nx49 (D.2 14 c) q.1 q.2) (fin := fun s => some (D.2 14 c, s.2)) (N := N) (s0 := (1 + 3 * (c : Int), upI σ2 101 0 ((dc D : Int) - 1))) (fun w s => s.1 = 1 + 3 * (c : Int) + w ∧ (∀ a z, ¬ (a = 101 ∧ 1 ≤ z ∧ z ≤ 90) → s.2.1 a z = (upI σ2 101 0 ((dc D : Int) - 1)).1 a z) ∧ (∀ z : Int, 1 ≤ z → z ≤ 90 → s.2.1 101 z = if 1 + 3 * (c : Int) ≤ z ∧ z < 1 + 3 * (c : Int) + w then σ2.1 101 (z + 3) else σ2.1 101 z) ∧ s.2.2 = σ2.2) (3 * (dc D - 1 - c)) (bigN hN) ⟨by omega, fun _ _ _ => rfl, fun z z0 z1 => by rw [if_neg (by omega)]; exact up_ix (by omega), rfl⟩ (fun w s hw hI => by
      obtain ⟨v, τ⟩ := s
      obtain ⟨i1, i2, i3', i4⟩ := hI
      have i1 : v = 1 + 3 * (c : Int) + w := i1
      subst i1
      obtain ⟨t24, t0⟩ := sl τ i2
      have o0' : F_X12_of N 0 τ = some ((dc D : Int) - 1) := by rw [m_ofr (Or.inl rfl) t24 (by omega) (by omega), show (200 : Int) * 0 + 0 = 0 by omega, t0]
      have i3' : ∀ z : Int, 1 ≤ z → z ≤ 90 → τ.1 101 z = if 1 + 3 * (c : Int) ≤ z ∧ z < 1 + 3 * (c : Int) + w then σ2.1 101 (z + 3) else σ2.1 101 z := i3'
      have rd : τ.1 101 (1 + 3 * (c : Int) + w + 3) = σ2.1 101 (1 + 3 * (c : Int) + w + 3) := by rw [i3' _ (by omega) (by omega), if_neg (by omega)]
      refine ⟨(1 + 3 * (c : Int) + w + 1, upI τ 101 (1 + 3 * (c : Int) + w) (σ2.1 101 (1 + 3 * (c : Int) + w + 3))), ⟨by show 1 + 3 * (c : Int) + w + 1 = 1 + 3 * (c : Int) + ((w + 1 : Nat) : Int); omega, fun a z p => ?_, fun z z0 z1 => ?_, i4⟩, fun nx => ?_⟩
      · show (upI τ 101 _ _).1 a z = _
        rw [upI_ne (by omega)]; exact i2 a z p
      · show (upI τ 101 _ _).1 101 z = _
        by_cases e : z = 1 + 3 * (c : Int) + w
        · subst e
          rw [up_same, if_pos ⟨by omega, by omega⟩]
        · rw [up_ix e, i3' z z0 z1]
          by_cases y : 1 + 3 * (c : Int) ≤ z ∧ z < 1 + 3 * (c : Int) + w
          · rw [if_pos y, if_pos ⟨y.1, by omega⟩]
          · rw [if_neg y, if_neg (by omega)]
      · show F_X12_withdraw_B49 N nx (D.2 14 c) (1 + 3 * (c : Int) + w) τ = _
        unfold F_X12_withdraw_B49
        rw [o0', Option.bind_some, jm_eq ⟨by omega, by omega⟩, ja_eq ⟨by omega, by omega⟩, if_neg (by omega), ja_eq ⟨by omega, by omega⟩, m_ofr (Or.inl rfl) t24 (by omega) (by omega), Option.bind_some, m_lay (Or.inl rfl) t24 (by omega) (by omega), Option.bind_some, ja_1 (by omega) (by omega), show (200 : Int) * 0 + (1 + 3 * (c : Int) + w + 3) = 1 + 3 * (c : Int) + w + 3 by omega, show (200 : Int) * 0 + (1 + 3 * (c : Int) + w) = 1 + 3 * (c : Int) + w by omega, rd]) (fun s hI nx => by
      obtain ⟨v, τ⟩ := s
      have i1 : v = 1 + 3 * (c : Int) + ((3 * (dc D - 1 - c) : Nat) : Int) := hI.1
      obtain ⟨t24, t0⟩ := sl τ hI.2.1
      have o0' : F_X12_of N 0 τ = some ((dc D : Int) - 1) := by rw [m_ofr (Or.inl rfl) t24 (by omega) (by omega), show (200 : Int) * 0 + 0 = 0 by omega, t0]
      show F_X12_withdraw_B49 N nx (D.2 14 c) v τ = some (D.2 14 c, τ)
      unfold F_X12_withdraw_B49
      rw [o0', Option.bind_some, jm_eq ⟨by omega, by omega⟩, ja_eq ⟨by omega, by omega⟩, if_pos (by omega)])
    rw [h5]
    have fr : ∀ a z, ¬ (a = 101 ∧ (z < 200 ∨ 600 ≤ z)) → ¬ (a = 94 ∧ z = 25) → s.2.1 a z = (upI σ 94 2 0).1 a z := fun a z p q => by rw [h2 _ _ (by omega), upI_ne (by omega), b3 _ _ (by omega) q]
    obtain ⟨t24, t0⟩ := sl s.2 h2
    have Bf : BkM s.2 0 (rmC D c) := by
      refine ⟨⟨?_, ?_⟩, fun x x0 x1 => ?_, fun p p0 p1 => ?_, fun x x0 x1 => ?_⟩
      · rw [show (200 : Int) * 0 = 0 by omega, t0]; show (dc D : Int) - 1 = ((dc D - 1 : Nat) : Int); omega
      · rw [h2 _ _ (by omega), upI_ne (by omega)]; exact q2
      · have x1 : x < ((dc D - 1 : Nat) : Int) := x1
        rw [h3 _ (by omega) (by omega), h3 _ (by omega) (by omega), h3 _ (by omega) (by omega)]
        by_cases q : x < c
        · rw [rmC_lo q, rmC_lo q, rmC_lo q, if_neg (by omega), if_neg (by omega), if_neg (by omega)]
          exact q3 x x0 (by omega)
        · rw [rmC_hi (by decide) (by omega), rmC_hi (by decide) (by omega), rmC_hi (by decide) (by omega), if_pos (by omega), if_pos (by omega), if_pos (by omega), show (200 : Int) * 0 + (1 + 3 * x) + 3 = 200 * 0 + (1 + 3 * (x + 1)) by omega, show (200 : Int) * 0 + (1 + 3 * x + 1) + 3 = 200 * 0 + (1 + 3 * (x + 1) + 1) by omega, show (200 : Int) * 0 + (1 + 3 * x + 2) + 3 = 200 * 0 + (1 + 3 * (x + 1) + 2) by omega]
          exact q3 (x + 1) (by omega) (by omega)
      · have p1 : p < (dp D : Int) := p1
        rw [h2 _ _ (by omega), upI_ne (by omega), rmC_row (by decide)]; exact q4 p p0 p1
      · have x1 : x < (dn D : Int) := x1
        rw [h2 _ _ (by omega), h2 _ _ (by omega), h2 _ _ (by omega), h2 _ _ (by omega), upI_ne (by omega), upI_ne (by omega), upI_ne (by omega), upI_ne (by omega), rmC_row (by decide), rmC_row (by decide), rmC_row (by decide), rmC_row (by decide)]
        exact q5 x x0 x1
    refine ⟨s.2, rfl, (FM.mo m').tr ⟨fun a z q => fr a z (by omega) (by omega), fun z => by rw [h4, b4]⟩, Or.inr ⟨h, ?_, ?_⟩⟩
    · rw [Int.toNat_natCast]
      exact M'.mut (rmC_sm D c).txm (by rw [rmC_row (by decide)]) Bf (fun a z q => fr a z (by omega) (by omega))
    · exact b2.cg (up_ix (by decide)) (fun z _ => up_pl (by decide)) (by rw [h2 _ _ (by omega), up_pl (by decide)]) (fun z hz => by rw [h2 _ _ (by omega), upI_ne (by omega)])
  · rw [if_neg h, if_pos rfl, if_neg h]
    exact ⟨_, rfl, FM.mo m', Or.inl ⟨h, M', m'⟩⟩
end RM
/-! a RESULT -/
def setR (D : Dk) (p v : Int) : Dk := (D.1, fun r x => if r = 7 ∧ x = p then v else D.2 r x)
theorem setR_row {D : Dk} {p v : Int} {r : Nat} (h : r ≠ 7) : (setR D p v).2 r = D.2 r := by
  funext x
  show (if r = 7 ∧ x = p then v else D.2 r x) = D.2 r x
  rw [if_neg (fun z => h z.1)]
theorem setR_at {D : Dk} {p v : Int} : (setR D p v).2 7 p = v := if_pos ⟨rfl, rfl⟩
theorem setR_ne {D : Dk} {p v x : Int} (h : x ≠ p) : (setR D p v).2 7 x = D.2 7 x := if_neg (fun z => h z.2)
theorem setR_sm {D : Dk} {p v : Int} : SameT (setR D p v) D := ⟨⟨rfl, rfl⟩, fun r h => (setR_row (by omega)).symm⟩
section SR
variable {N : Nat} {σ : Sto} {b : Nat} {D : Dk} {p v : Int}
theorem sr_val (V : Val D) (v0 : -99999 ≤ v) (v1 : v ≤ 99999) : Val (setR D p v) := by
  refine ⟨V.1, ?_, ?_, fun q q0 q1 => ?_, ?_, ?_⟩
  · rw [setR_row (by decide)]; exact V.sc
  · rw [setR_row (by decide), setR_row (by decide)]; exact V.2.2.1
  · rw [setR_row (by decide), setR_row (by decide), setR_row (by decide)]
    have := V.per q0 q1
    by_cases e : q = p
    · subst e; rw [setR_at]; exact ⟨this.1, this.2.1, v0, v1⟩
    · rw [setR_ne e]; exact this
  · rw [setR_row (by decide), setR_row (by decide), setR_row (by decide), setR_row (by decide)]; exact V.2.2.2.2.1
  · rw [setR_row (by decide), setR_row (by decide), setR_row (by decide)]; exact V.2.2.2.2.2
theorem sr_dys (g a c fr to : Int) : dys (setR D p v) g a c fr to = dys D g a c fr to := by
  have k1 : ∀ a b day k, pctK (setR D p v) a b day k = pctK D a b day k := fun a b day k => by
    induction k with
    | zero => rfl
    | succ k ih => unfold pctK; rw [ih, setR_row (by decide), setR_row (by decide), setR_row (by decide), setR_row (by decide)]
  have k2 : ∀ day, pct (setR D p v) day = pct D day := fun day => by funext a b; exact congrArg Prod.snd (k1 a b day (dn D))
  have k3 : ∀ d k, nxtK (setR D p v) d k = nxtK D d k := fun d k => by
    induction k with
    | zero => rfl
    | succ k ih => unfold nxtK; rw [ih, setR_row (by decide)]
  have k4 : ∀ d, nxt (setR D p v) d = nxt D d := fun d => k3 d (dn D)
  have k5 : ∀ i, stD (setR D p v) i = stD D i := fun i => by
    induction i with
    | zero => rfl
    | succ i ih => show nxt (setR D p v) (stD (setR D p v) i) = nxt D (stD D i); rw [ih, k4]
  have k6 : ∀ f i, nsF (setR D p v) f i = nsF D f i := fun f => by
    induction f with
    | zero => intro i; rfl
    | succ f ih => intro i; unfold nsF; rw [k5, ih]
  unfold dys
  rw [show nsD (setR D p v) = nsD D from k6 25 0]
  refine sumTo_congr (fun k _ => ?_)
  unfold dysF
  rw [k5, k5, k2]; rfl
theorem sr_bnd (g : Int) (F : Int → Int) {i j : Int} (hi : i ≠ p) (hj : j ≠ p) : bnd (setR D p v) g F i j = bnd D g F i j := by
  unfold bnd shd
  rw [sr_dys, setR_ne hi, setR_ne hj, setR_row (r := 4) (by decide), setR_row (r := 6) (by decide)]
theorem sr_lnk (c : Int) (F : Int → Int) {i j : Int} (hi : i ≠ p) (hj : j ≠ p) : lnk (setR D p v) c F i j = lnk D c F i j := by
  unfold lnk
  rw [setR_ne hi, setR_ne hj, setR_row (r := 4) (by decide), setR_row (r := 6) (by decide)]
  rfl
theorem sr_tak : takOf (setR D p v) = takOf D ∧ takOn (setR D p v) = takOn D := by
  constructor
  · funext q
    unfold takOf
    refine sumTo_congr (fun k _ => ?_)
    unfold takF
    rw [setR_row (by decide), setR_row (by decide), setR_row (by decide)]
  · funext x y
    unfold takOn
    refine sumTo_congr (fun k _ => ?_)
    unfold tonF
    rw [setR_row (by decide), setR_row (by decide), setR_row (by decide)]
theorem sumTo_mem {f : Int → Int} : ∀ {n : Nat}, (∀ k : Nat, k < n → 0 ≤ f k) → ∀ k : Nat, k < n → f k ≤ sumTo f n := by
  intro n
  induction n with
  | zero => intro _ k h; omega
  | succ n ih =>
    intro h k hk
    have z := sumTo_nn (f := f) (n := n) (fun k hk => h k (by omega))
    show f k ≤ sumTo f n + f n
    by_cases e : k = n
    · subst e; omega
    · have := ih (fun k hk => h k (by omega)) k (by omega)
      have := h n (by omega)
      omega
theorem no_claim (V : Val D) (h : takOf D p ≤ 0) : ∀ k : Nat, k < dc D → D.2 12 k ≠ p ∧ D.2 13 k ≠ p := fun k hk => by
  have v := (V.clm (k := k) (by omega) (by omega)).2.2
  have m := sumTo_mem (f := takF D p) (n := dc D) (fun k hk => (takF_bd V p k hk).1) k hk
  have m : takF D p k ≤ takOf D p := m
  unfold takF at m
  constructor
  · intro e
    rw [if_pos (Or.inl e)] at m; omega
  · intro e
    rw [if_pos (Or.inr e)] at m; omega
theorem ton_zero (V : Val D) (h : takOf D p ≤ 0) {x y : Int} (hx : x = p ∨ y = p) : takOn D x y = 0 := by
  unfold takOn
  refine sumTo_zero (fun k hk => ?_)
  have := no_claim V h k hk
  unfold tonF
  rw [if_neg (fun z => by
    rcases hx with rfl | rfl
    · exact this.1 z.1
    · exact this.2 z.2)]
theorem sr_gd (V : Val D) (K : GdD D) (v0 : -99999 ≤ v) (v1 : v ≤ 99999) (h : takOf D p ≤ 0) : GdD (setR D p v) := by
  have V' := sr_val (p := p) V v0 v1
  have e5 : (setR D p v).2 5 = D.2 5 := setR_row (by decide)
  have eg : gD (setR D p v) = gD D := by show (setR D p v).2 0 0 = _; rw [setR_row (by decide)]
  have ec : cD (setR D p v) = cD D := by show (setR D p v).2 0 3 = _; rw [setR_row (by decide)]
  show Gd (setR D p v) (gD (setR D p v)) (cD (setR D p v)) ((setR D p v).2 5)
  refine ⟨fun k hk => ?_, fun x y hl => ?_, fun q q0 q1 => ?_⟩
  · have n := no_claim V h k hk
    rw [setR_row (r := 12) (by decide), setR_row (r := 13) (by decide), sr_lnk _ _ n.1 n.2, ec, e5]
    exact K.1 k hk
  · rw [sr_tak.2]
    by_cases hx : x = p ∨ y = p
    · rw [ton_zero V h hx]
      have lq := lnk_iff.mp hl
      exact (bnd_bd V' (g := gD (setR D p v)) V'.fok lq.1 lq.2.1 lq.2.2.1 lq.2.2.2.1 lq.2.2.2.2.1 lq.2.2.2.2.2.1).1
    · have n1 : x ≠ p := fun z => hx (Or.inl z)
      have n2 : y ≠ p := fun z => hx (Or.inr z)
      rw [sr_bnd _ _ n1 n2, eg, e5]
      rw [sr_lnk _ _ n1 n2, ec, e5] at hl
      exact K.2.1 x y hl
  · unfold opn
    rw [sr_tak.1]
    by_cases e : q = p
    · subst e
      rw [setR_at]
      have : 0 ≤ rabs v := by unfold rabs; split <;> omega
      omega
    · rw [setR_ne e]; exact K.2.2 q q0 q1
theorem inv_set (hp : isP D p) : InvR 2 p (D.2 7 p) 0 0 (setR D p v) D := Or.inr (Or.inr (Or.inl ⟨rfl, ⟨hp, rfl, fun q q0 q1 hq => (setR_ne hq).symm⟩, ⟨rfl, fun x _ _ => by rw [setR_row (by decide), setR_row (by decide), setR_row (by decide)]; exact ⟨rfl, rfl, rfl⟩⟩, ⟨rfl, fun x _ _ => by rw [setR_row (by decide), setR_row (by decide), setR_row (by decide), setR_row (by decide)]; exact ⟨rfl, rfl, rfl, rfl⟩⟩⟩))
abbrev okR (D : Dk) (p v : Int) : Prop := isP D p ∧ (-99999 ≤ v ∧ v ≤ 99999) ∧ takOf D p ≤ 0
def rResult (D : Dk) (p v : Int) : Int := if okR D p v then 1 else 0
theorem x_result (hN : BigN N) (V : Val D) (X : XC σ b D) {u : Nat} (hu : u ≤ 20) (h33 : σ.1 33 1 = u) (p v : Int) : ∃ σ1, F_X11_result N p v σ = some (rResult D p v, σ1) ∧ FX σ σ1 ∧ ((¬ okR D p v ∧ XC σ1 b D ∧ RO σ σ1) ∨ (okR D p v ∧ XC σ1 b (setR D p v) ∧ PshX σ σ1 2 p (D.2 7 p) 0 0)) := by
  have vz := V.sz
  have hb := X.lt
  have hb3 := X.ge
  have hbb : b + 12 ≤ 28 := by rcases X.1 with h | h <;> omega
  have same : ¬ okR D p v → ∃ σ1, some ((0 : Int), σ) = some (rResult D p v, σ1) ∧ FX σ σ1 ∧ ((¬ okR D p v ∧ XC σ1 b D ∧ RO σ σ1) ∨ (okR D p v ∧ XC σ1 b (setR D p v) ∧ PshX σ σ1 2 p (D.2 7 p) 0 0)) := fun h => ⟨σ, by unfold rResult; rw [if_neg h], FX.ro RO.rf, Or.inl ⟨h, X, RO.rf⟩⟩
  unfold F_X11_result
  rw [X.at, k_hasPeriod X.2.2.1, Option.bind_some]
  by_cases h1 : isP D p
  · rw [if_pos h1, if_neg (by decide)]
    by_cases h2 : v < -99999
    · rw [if_pos h2]; exact same (fun z => by have := z.2.1; omega)
    rw [if_neg h2]
    by_cases h3 : 99999 < v
    · rw [if_pos h3]; exact same (fun z => by have := z.2.1; omega)
    rw [if_neg h3, k_touches hN V X.2.2.2.1, Option.bind_some]
    by_cases h4 : takOf D p ≤ 0
    · have ok : okR D p v := ⟨h1, ⟨by omega, by omega⟩, h4⟩
      rw [if_pos h4, if_pos rfl, X.at, inb_in (by omega), (X.2.2.1.2.2.1 p h1.1 h1.2).2.2.2]
      obtain ⟨σ1, p1, p2, p3, p4⟩ := k_push hN hu h33 2 p (D.2 7 p) 0 0
      have e01 : σ1.1 0 1 = b := (p3 _ _ (by decide) (by decide)).trans X.2.1
      rw [p1, Option.bind_some, e01, asB_in X.1]
      unfold F_X11_forgetNet
      rw [Option.bind_some]
      have fr : ∀ a z, ¬ (a = 33 ∨ a = 34) → ¬ (a = 0 ∧ (z = 16 ∨ z = 17)) → ¬ (a = b + 7 ∧ z = p) → (upI (upI (upI σ1 (b + 7) p v) 0 16 0) 0 17 0).1 a z = σ.1 a z := fun a z q1 q2 q3 => by rw [upI_ne (by omega), upI_ne (by omega), upI_ne q3, p3 a z (by omega) (by omega)]
      have at7 : (upI (upI (upI σ1 (b + 7) p v) 0 16 0) 0 17 0).1 (b + 7) p = v := by rw [up_pl (by omega), up_pl (by omega), up_same]
      refine ⟨_, by unfold rResult; rw [if_pos ok], fun a z q => fr a z (by omega) (by omega) (by omega), Or.inr ⟨ok, ?_, ?_⟩⟩
      · refine XC.mk0 X.1 (by rw [fr _ _ (by omega) (by omega) (by omega)]; exact X.2.1) ?_ (show LedR _ 29 (setR D p v) from ?_) (X.2.2.2.2.1.cg (fun j => fr _ _ (by omega) (by omega) (by omega)) (fun j => by show σ1.2 49 j = _; rw [p4])) (by rw [up_ix (by decide), up_same]) up_same
        · obtain ⟨B1, B2, B3, B4⟩ := X.2.2.1
          refine ⟨?_, fun m m0 m1 => ?_, fun q q0 q1 => ?_, ?_⟩
          · rw [setR_row (by decide), fr _ _ (by omega) (by omega) (by omega), fr _ _ (by omega) (by omega) (by omega), fr _ _ (by omega) (by omega) (by omega), fr _ _ (by omega) (by omega) (by omega), fr _ _ (by omega) (by omega) (by omega), fr _ _ (by omega) (by omega) (by omega)]
            exact B1
          · rw [setR_row (by decide), setR_row (by decide), setR_row (by decide), fr _ _ (by omega) (by omega) (by omega), fr _ _ (by omega) (by omega) (by omega), fr _ _ (by omega) (by omega) (by omega)]
            exact B2 m m0 m1
          · rw [setR_row (by decide), setR_row (by decide), setR_row (by decide), fr _ _ (by omega) (by omega) (by omega), fr _ _ (by omega) (by omega) (by omega), fr _ _ (by omega) (by omega) (by omega)]
            have := B3 q q0 q1
            refine ⟨this.1, this.2.1, this.2.2.1, ?_⟩
            by_cases e : q = p
            · subst e; rw [at7, setR_at]
            · rw [setR_ne e, fr _ _ (by omega) (by omega) (by omega)]; exact this.2.2.2
          · unfold PtsR
            rw [setR_row (by decide), setR_row (by decide), setR_row (by decide), setR_row (by decide)]
            exact (B4.cg (fun a z q1 q2 => fr a z (by omega) (by omega) (by omega)))
        · unfold LedR
          rw [setR_row (by decide), setR_row (by decide), setR_row (by decide)]
          exact (X.2.2.2.1.cg (fun a z q1 q2 => fr a z (by omega) (by omega) (by omega)))
      · exact p2.cg (fun _ _ _ => rfl) (fun y z q => by rw [up_pl (by omega), up_pl (by omega), up_pl (by omega)])
    · rw [if_neg h4, if_neg (by decide)]; exact same (fun z => h4 z.2.2)
  · rw [if_neg h1, if_pos rfl]; exact same (fun z => h1 z.1)
theorem m_resultQ (hN : BigN N) (V : Val D) (M : MK σ D) {u : Nat} (hu : u ≤ 20) (h25 : σ.1 94 25 = u) (p v : Int) : ∃ σ1, F_X12_result_ N p v σ = some (rResult D p v, σ1) ∧ FM σ σ1 ∧ ((¬ okR D p v ∧ MK σ1 D ∧ MO σ σ1) ∨ (okR D p v ∧ MK σ1 (setR D p v) ∧ PshM σ σ1)) := by
  have vz := V.sz
  obtain ⟨M', m'⟩ := M.up2 V 0
  have same : ¬ okR D p v → ∃ σ1, some ((0 : Int), upI σ 94 2 0) = some (rResult D p v, σ1) ∧ FM σ σ1 ∧ ((¬ okR D p v ∧ MK σ1 D ∧ MO σ σ1) ∨ (okR D p v ∧ MK σ1 (setR D p v) ∧ PshM σ σ1)) := fun h => ⟨_, by unfold rResult; rw [if_neg h], FM.mo m', Or.inl ⟨h, M', m'⟩⟩
  unfold F_X12_result_
  rw [m_isPeriod M'.1, Option.bind_some]
  by_cases h1 : isP D p
  · rw [if_pos h1, if_neg (by decide), m_isIn, Option.bind_some]
    by_cases h2 : -99999 ≤ v ∧ v ≤ 99999
    · rw [if_pos h2, if_neg (by decide), m_claimedOf hN M'.1 V, Option.bind_some]
      by_cases h4 : takOf D p ≤ 0
      · have ok : okR D p v := ⟨h1, h2, h4⟩
        obtain ⟨σ2, b1, b2, b3, b4⟩ := m_canUndo hN hu (show (upI σ 94 2 0).1 94 25 = u by rw [up_ix (by decide)]; exact h25)
        have g24 : σ2.1 94 24 = 0 := (b3 _ _ (by omega) (by omega)).trans M'.2.1
        obtain ⟨⟨q1, q2⟩, q3, q4, q5⟩ := (M'.b0.cg (σ' := σ2) (fun z _ _ => b3 _ _ (by omega) (by omega)) V)
        rw [if_pos h4, b1, Option.bind_some, ja_eq ⟨by omega, by omega⟩, m_lay (Or.inl rfl) g24 (by omega) (by omega), Option.bind_some]
        have fr : ∀ a z, ¬ (a = 101 ∧ (z < 200 ∨ 600 ≤ z)) → ¬ (a = 94 ∧ z = 25) → (upI σ2 101 (200 * 0 + (91 + p)) v).1 a z = (upI σ 94 2 0).1 a z := fun a z p q => by rw [upI_ne (by omega), b3 _ _ (by omega) q]
        refine ⟨_, by unfold rResult; rw [if_pos ok], (FM.mo m').tr ⟨fun a z q => fr a z (by omega) (by omega), fun z => by show σ2.2 49 z = _; rw [b4]⟩, Or.inr ⟨ok, ?_, ?_⟩⟩
        · refine M'.mut (E := setR D p v) (fun T => ?_) (by rw [setR_row (by decide)]) ?_ (fun a z q => fr a z (by omega) (by omega))
          · unfold TxM
            rw [setR_row (by decide), setR_row (by decide), setR_row (by decide), setR_row (by decide), setR_row (by decide), setR_row (by decide), setR_row (by decide)]
            exact T
          · refine ⟨⟨?_, ?_⟩, fun x x0 x1 => ?_, fun q q0 qq => ?_, fun x x0 x1 => ?_⟩
            · rw [up_ix (by omega)]; exact q1
            · rw [up_ix (by omega)]; exact q2
            · have x1 : x < (dc D : Int) := x1
              rw [setR_row (by decide), setR_row (by decide), setR_row (by decide), up_ix (by omega), up_ix (by omega), up_ix (by omega)]; exact q3 x x0 x1
            · by_cases e : q = p
              · subst e; rw [up_same, setR_at]
              · rw [up_ix (by omega), setR_ne e]; exact q4 q q0 qq
            · have x1 : x < (dn D : Int) := x1
              rw [setR_row (by decide), setR_row (by decide), setR_row (by decide), setR_row (by decide), up_ix (by omega), up_ix (by omega), up_ix (by omega), up_ix (by omega)]; exact q5 x x0 x1
        · exact b2.cg (up_ix (by decide)) (fun z _ => up_pl (by decide)) (up_pl (by decide)) (fun z hz => up_ix (by omega))
      · rw [if_neg h4]; exact same (fun z => h4 z.2.2)
    · rw [if_neg h2, if_pos rfl]; exact same (fun z => h2 z.2.1)
  · rw [if_neg h1, if_pos rfl]; exact same (fun z => h1 z.1)
end SR
