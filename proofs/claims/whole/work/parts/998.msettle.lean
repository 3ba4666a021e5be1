/-! BALANCES and SETTLING: the reference -/
section MSET
variable {N : Nat} {σ : Sto} {D : Dk}
theorem QM.of {o : Option (Int × Sto)} {r : Int} {σ' : Sto} (V : Val D) (M : MK σ D) (h : o = some (r, σ')) (m : MO σ σ') : QM σ D o r := ⟨σ', h, M.cg V m, m⟩
/-- payments so far: of RELIEF up to k, of CLAIMS up to c -/
def PyT (σ : Sto) (D : Dk) (k c : Nat) : Prop := ∀ x y : Nat, x < 8 → y < 8 → σ.1 111 (8 * (x : Int) + y) = sN (fun i => hPy D (x : Int) (y : Int) (i / 12) (i % 12)) k + sN (fun i => hPc D (x : Int) (y : Int) (i : Int)) c
theorem py_bd (V : Val D) (K : GdD D) (R : RD D) {k c : Nat} (hk : k ≤ 144) (hc : c ≤ dc D) (x y : Int) : 0 ≤ sN (fun i => hPy D x y (i / 12) (i % 12)) k + sN (fun i => hPc D x y (i : Int)) c ∧ sN (fun i => hPy D x y (i / 12) (i % 12)) k + sN (fun i => hPc D x y (i : Int)) c ≤ 17225826 := by
  have vz := V.sz
  have b1 := sN_bd (g := fun i => hPy D x y (i / 12) (i % 12)) (b := 98999) (n := k) (fun i _ => (hPy_bd V K R x y _ _).1)
  have b2 := sN_bd (g := fun i => hPc D x y (i : Int)) (b := 98999) (n := c) (fun i hi => (hPc_bd V x y i (by omega)).1)
  omega
theorem m_laysBal (hN : BigN N) (V : Val D) (K : GdD D) (R : RD D) (M : MK σ D) : ∃ σ', F_X12_laysBalances N σ = some σ' ∧ MK σ' D ∧ MO σ σ' ∧ (∀ x y : Nat, x < 8 → y < 8 → σ'.1 111 (8 * (x : Int) + y) = pAl D x y) ∧ ∀ m : Nat, m < 8 → σ'.1 112 m = bal D m := by
  have vz := V.sz
  obtain ⟨σ1, a1, a2, a3, a4, a5⟩ := m_solves hN V K M R
  unfold F_X12_laysBalances
  rw [a1, Option.bind_some]
  -- nothing yet
  obtain ⟨s1, ⟨p1, p2, p3, p4⟩, p5⟩ := loop_A (b := fun q nx7 => F_X12_laysBalances_B7 N nx7 q.1 q.2) (fin := fun s => F_X12_laysBalances_J26 N s.2) (N := N) (s0 := ((0 : Int), σ1)) (fun k s => s.1 = k ∧ (∀ a j, a ≠ 111 → s.2.1 a j = σ1.1 a j) ∧ s.2.2 = σ1.2 ∧ ∀ i : Nat, i < k → s.2.1 111 i = 0) 64 (bigN hN) ⟨rfl, fun _ _ _ => rfl, rfl, fun i hi => by omega⟩ (fun k s hk hI => by
    obtain ⟨v, τ⟩ := s
    obtain ⟨i1, i2, i3, i4⟩ := hI
    have i1 : v = k := i1
    subst i1
    refine ⟨((k : Int) + 1, upI τ 111 k 0), ⟨by show (k : Int) + 1 = ((k + 1 : Nat) : Int); omega, fun a j h => (up_pl h).trans (i2 a j h), i3, fun i hi => ?_⟩, fun nx => ?_⟩
    · show (upI τ 111 k 0).1 111 i = 0
      rw [upI_at]
      split
      · rfl
      · exact i4 i (by omega)
    · show F_X12_laysBalances_B7 N nx k τ = _
      unfold F_X12_laysBalances_B7
      rw [if_neg (by omega), inb_in (by omega), ja_1 (by omega) (by omega)]) (fun s hI nx => by
    obtain ⟨v, τ⟩ := s
    have i1 : v = ((64 : Nat) : Int) := hI.1
    show F_X12_laysBalances_B7 N nx v τ = F_X12_laysBalances_J26 N τ
    unfold F_X12_laysBalances_B7
    rw [i1, if_pos (by omega)])
  rw [p5]
  have mo : ∀ τ : Sto, (∀ a j, a ≠ 111 → τ.1 a j = σ1.1 a j) → τ.2 = σ1.2 → MO σ1 τ := fun τ h1 h2 => ⟨fun a j h => h1 a j (by omega), fun j => by rw [h2]⟩
  -- of RELIEF
  obtain ⟨s2, ⟨q1, q2, q3, q4⟩, q5⟩ := loop_A (b := fun q nx28 => F_X12_laysBalances_B28 N nx28 q.1 q.2) (fin := fun s => F_X12_laysBalances_J96 N s.2) (N := N) (s0 := ((0 : Int), s1.2)) (fun k s => s.1 = k ∧ (∀ a j, a ≠ 111 → s.2.1 a j = σ1.1 a j) ∧ s.2.2 = σ1.2 ∧ PyT s.2 D k 0) 144 (bigN hN) ⟨rfl, p2, p3, fun x y hx hy => by
    have := p4 (8 * x + y) (by omega)
    rw [show ((8 * x + y : Nat) : Int) = 8 * (x : Int) + y by omega] at this
    rw [this]; rfl⟩ (fun k s hk hI => by
    obtain ⟨v, τ⟩ := s
    obtain ⟨i1, i2, i3, i4⟩ := hI
    have i1 : v = k := i1
    subst i1
    have Mt := a2.cg V (mo τ i2 i3)
    have e := a4.2.2 (k / 12) (k % 12) (by omega) (by omega)
    rw [k12] at e
    have e : τ.1 107 (k : Int) = rl D (k / 12) (k % 12) := (i2 _ _ (by decide)).trans e
    have rb : (0 ≤ rl D (k / 12) (k % 12) ∧ rl D (k / 12) (k % 12) ≤ 99999) ∧ (0 < rl D (k / 12) (k % 12) → lnk D (cD D) (D.2 5) ((k / 12 : Nat) : Int) ((k % 12 : Nat) : Int) = true) := rl_bd V V.fok K R (k / 12) (k % 12)
    have i4 : PyT τ D k 0 := i4
    by_cases z : rl D (k / 12) (k % 12) ≤ 0
    · refine ⟨((k : Int) + 1, τ), ⟨by show (k : Int) + 1 = ((k + 1 : Nat) : Int); omega, i2, i3, fun x y hx hy => ?_⟩, fun nx => ?_⟩
      · have h0 : hPy D (x : Int) (y : Int) (k / 12) (k % 12) = 0 := by
          unfold hPy
          rw [show rl D (k / 12) (k % 12) = 0 by omega, paid_0]
          split <;> rfl
        show τ.1 111 _ = (sN (fun i => hPy D (x : Int) (y : Int) (i / 12) (i % 12)) k + hPy D (x : Int) (y : Int) (k / 12) (k % 12)) + _
        rw [h0, Int.add_zero]
        exact i4 x y hx hy
      · show F_X12_laysBalances_B28 N nx k τ = _
        unfold F_X12_laysBalances_B28 F_X12_laysBalances_J90
        rw [if_neg (by omega), inb_in (by omega), e, if_pos z, ja_1 (by omega) (by omega)]
    · have lq := lnk_iff.mp (rb.2 (by omega))
      have v1 := (V.per (p := ((k / 12 : Nat) : Int)) (by omega) (by omega)).1
      have v2 := (V.per (p := ((k % 12 : Nat) : Int)) (by omega) (by omega)).1
      obtain ⟨x0, hx0⟩ : ∃ x0 : Nat, D.2 4 ((k % 12 : Nat) : Int) = x0 := ⟨(D.2 4 ((k % 12 : Nat) : Int)).toNat, by omega⟩
      obtain ⟨y0, hy0⟩ : ∃ y0 : Nat, D.2 4 ((k / 12 : Nat) : Int) = y0 := ⟨(D.2 4 ((k / 12 : Nat) : Int)).toNat, by omega⟩
      rw [hx0] at v2
      rw [hy0] at v1
      have ix : ja (jm 8 (x0 : Int)) (y0 : Int) = 8 * x0 + y0 := ix8' (by omega) (by omega) (by omega) (by omega)
      have pb := (hPy_bd V K R 0 0 (k / 12) (k % 12)).2
      have cb := py_bd V K R (k := k) (c := 0) (by omega) (by omega) (x0 : Int) (y0 : Int)
      have i5 := i4 x0 y0 (by omega) (by omega)
      refine ⟨((k : Int) + 1, upI τ 111 (8 * (x0 : Int) + y0) (τ.1 111 (8 * (x0 : Int) + y0) + paid D ((k / 12 : Nat) : Int) ((k % 12 : Nat) : Int) (rl D (k / 12) (k % 12)))), ⟨by show (k : Int) + 1 = ((k + 1 : Nat) : Int); omega, fun a j h => (up_pl h).trans (i2 a j h), i3, fun x y hx hy => ?_⟩, fun nx => ?_⟩
      · show (upI τ 111 _ _).1 111 _ = (sN (fun i => hPy D (x : Int) (y : Int) (i / 12) (i % 12)) k + hPy D (x : Int) (y : Int) (k / 12) (k % 12)) + _
        have i6 := i4 x y hx hy
        unfold hPy
        rw [hx0, hy0]
        by_cases w : x = x0 ∧ y = y0
        · obtain ⟨rfl, rfl⟩ := w
          rw [up_same, if_pos ⟨Or.inr rfl, Or.inr rfl⟩, i5]
          unfold hPy
          omega
        · rw [up_ix (by omega), if_neg (fun z => w ⟨by rcases z.1 with z | z <;> omega, by rcases z.2 with z | z <;> omega⟩), Int.add_zero, i6]
          unfold hPy
          rfl
      · show F_X12_laysBalances_B28 N nx k τ = _
        unfold F_X12_laysBalances_B28 F_X12_laysBalances_J90
        rw [if_neg (by omega), inb_in (by omega), e, if_neg z, (d12 hk).1, (d12 hk).2, m_memberOf Mt.1 V (by omega) (by omega), Option.bind_some, m_memberOf Mt.1 V (by omega) (by omega), Option.bind_some, hx0, hy0, ix, inb_in (by omega), m_paid V Mt.1 (by omega) (by omega) (by omega) (by omega) (by omega) (by omega), Option.bind_some, ja_1 (by omega) (by omega), ja_eq ⟨by omega, by omega⟩]) (fun s hI nx => by
    obtain ⟨v, τ⟩ := s
    have i1 : v = ((144 : Nat) : Int) := hI.1
    show F_X12_laysBalances_B28 N nx v τ = F_X12_laysBalances_J96 N τ
    unfold F_X12_laysBalances_B28
    rw [i1, if_pos (by omega)])
  have e26 : F_X12_laysBalances_J26 N s1.2 = F_X12_laysBalances_J96 N s2.2 := by unfold F_X12_laysBalances_J26; exact q5
  show ∃ σ', F_X12_laysBalances_J26 N s1.2 = some σ' ∧ _
  rw [e26]
  -- of CLAIMS
  obtain ⟨s3, ⟨t1, t2, t3, t4⟩, t5⟩ := loop_A (b := fun q nx98 => F_X12_laysBalances_B98 N nx98 q.1 q.2) (fin := fun s => F_X12_laysBalances_J174 N s.2) (N := N) (s0 := ((0 : Int), s2.2)) (fun k s => s.1 = k ∧ (∀ a j, a ≠ 111 → s.2.1 a j = σ1.1 a j) ∧ s.2.2 = σ1.2 ∧ PyT s.2 D 144 k) (dc D) (bigN hN) ⟨rfl, q2, q3, q4⟩ (fun k s hk hI => by
    obtain ⟨v, τ⟩ := s
    obtain ⟨i1, i2, i3, i4⟩ := hI
    have i1 : v = k := i1
    subst i1
    have Mt := a2.cg V (mo τ i2 i3)
    have i4 : PyT τ D 144 k := i4
    have o := m_ofc (N := N) Mt.1 V (k := (k : Int)) (by omega) (by omega)
    have v := V.clm (k := k) (by omega) (by omega)
    have v1 := (V.per v.1.1 v.1.2).1
    have v2 := (V.per v.2.1.1 v.2.1.2).1
    obtain ⟨x0, hx0⟩ : ∃ x0 : Nat, D.2 4 (D.2 13 k) = x0 := ⟨(D.2 4 (D.2 13 k)).toNat, by omega⟩
    obtain ⟨y0, hy0⟩ : ∃ y0 : Nat, D.2 4 (D.2 12 k) = y0 := ⟨(D.2 4 (D.2 12 k)).toNat, by omega⟩
    rw [hx0] at v2
    rw [hy0] at v1
    have ix : ja (jm 8 (x0 : Int)) (y0 : Int) = 8 * x0 + y0 := ix8' (by omega) (by omega) (by omega) (by omega)
    have pb := (hPc_bd V 0 0 k hk).2
    have cb := py_bd V K R (k := 144) (c := k) (by omega) (by omega) (x0 : Int) (y0 : Int)
    have i5 := i4 x0 y0 (by omega) (by omega)
    refine ⟨((k : Int) + 1, upI τ 111 (8 * (x0 : Int) + y0) (τ.1 111 (8 * (x0 : Int) + y0) + paid D (D.2 12 k) (D.2 13 k) (D.2 14 k))), ⟨by show (k : Int) + 1 = ((k + 1 : Nat) : Int); omega, fun a j h => (up_pl h).trans (i2 a j h), i3, fun x y hx hy => ?_⟩, fun nx => ?_⟩
    · show (upI τ 111 _ _).1 111 _ = _ + (sN (fun i => hPc D (x : Int) (y : Int) (i : Int)) k + hPc D (x : Int) (y : Int) k)
      have i6 := i4 x y hx hy
      unfold hPc
      rw [hx0, hy0]
      by_cases w : x = x0 ∧ y = y0
      · obtain ⟨rfl, rfl⟩ := w
        rw [up_same, if_pos ⟨Or.inr rfl, Or.inr rfl⟩, i5]
        unfold hPc
        omega
      · rw [up_ix (by omega), if_neg (fun z => w ⟨by rcases z.1 with z | z <;> omega, by rcases z.2 with z | z <;> omega⟩), Int.add_zero, i6]
        unfold hPc
        rfl
    · show F_X12_laysBalances_B98 N nx k τ = _
      unfold F_X12_laysBalances_B98
      rw [m_of0 Mt.1, Option.bind_some, if_neg (by omega), o.2.1, o.1, o.2.2]
      simp only [Option.bind_some]
      rw [m_memberOf Mt.1 V v.1.1 v.1.2, m_memberOf Mt.1 V v.2.1.1 v.2.1.2]
      simp only [Option.bind_some]
      rw [m_paid V Mt.1 v.1.1 v.1.2 v.2.1.1 v.2.1.2 (by omega) (by omega)]
      simp only [Option.bind_some]
      rw [hx0, hy0, ix, inb_in (by omega), ja_1 (by omega) (by omega), ja_eq ⟨by omega, by omega⟩]) (fun s hI nx => by
    obtain ⟨v, τ⟩ := s
    obtain ⟨i1, i2, i3, i4⟩ := hI
    have i1 : v = (dc D : Int) := i1
    have Mt := a2.cg V (mo τ i2 i3)
    show F_X12_laysBalances_B98 N nx v τ = F_X12_laysBalances_J174 N τ
    unfold F_X12_laysBalances_B98
    rw [m_of0 Mt.1, Option.bind_some, i1, if_pos (Int.le_refl _)])
  have e96 : F_X12_laysBalances_J96 N s2.2 = F_X12_laysBalances_J174 N s3.2 := by unfold F_X12_laysBalances_J96; exact t5
  rw [e96]
  have PA : ∀ x y : Nat, x < 8 → y < 8 → s3.2.1 111 (8 * (x : Int) + y) = pAl D x y := fun x y hx hy => by rw [t4 x y hx hy, pAl_flat]
  -- BALANCES
  let f : Nat → Nat → Int := fun m o => pAl D (o : Int) (m : Int) - pAl D (m : Int) (o : Int)
  have fb : ∀ m o, -17225826 ≤ f m o ∧ f m o ≤ 17225826 := fun m o => by
    have c1 := pAl_bd V K R (o : Int) (m : Int)
    have c2 := pAl_bd V K R (m : Int) (o : Int)
    show -17225826 ≤ pAl D (o : Int) (m : Int) - pAl D (m : Int) (o : Int) ∧ pAl D (o : Int) (m : Int) - pAl D (m : Int) (o : Int) ≤ 17225826
    omega
  have fs : ∀ m o, o ≤ 8 → -137806608 ≤ sN (f m) o ∧ sN (f m) o ≤ 137806608 := fun m o ho => by
    have h1 := sN_le (g := f m) (h := fun _ => 17225826) (n := o) (fun k _ => (fb m k).2)
    have h2 := sN_le (g := fun _ => -17225826) (h := f m) (n := o) (fun k _ => (fb m k).1)
    have e1 : ∀ (c : Int) (n : Nat), sN (fun _ => c) n = c * n := fun c n => by
      induction n with
      | zero => show (0 : Int) = c * ((0 : Nat) : Int); simp
      | succ n ih => show sN (fun _ => c) n + c = c * ((n + 1 : Nat) : Int); rw [ih, show ((n + 1 : Nat) : Int) = (n : Int) + 1 by omega, Int.mul_add, Int.mul_one]
    rw [e1] at h1 h2
    omega
  have inner : ∀ (m : Nat) (τ : Sto), m < 8 → (∀ x y : Nat, x < 8 → y < 8 → τ.1 111 (8 * (x : Int) + y) = pAl D x y) → ∃ τ', (∀ nx176, loopK (fun q nx191 => F_X12_laysBalances_B191 N nx176 nx191 m q.1 q.2) N (0, upI τ 112 m 0) = nx176 ((m : Int) + 1, τ')) ∧ (∀ (a : Nat) (j : Int), ¬ (a = 112 ∧ j = (m : Int)) → τ'.1 a j = τ.1 a j) ∧ τ'.2 = τ.2 ∧ τ'.1 112 m = bal D m := fun m τ hm hP => by
    obtain ⟨s, ⟨h1, h2, h3, h4⟩, h5⟩ := loop_X (X := (Int × Sto) → Option Sto) (b := fun z q nx191 => F_X12_laysBalances_B191 N z nx191 m q.1 q.2) (fin := fun z s => z ((m : Int) + 1, s.2)) (N := N) (s0 := ((0 : Int), upI τ 112 m 0)) (fun o s => s.1 = o ∧ (∀ (a : Nat) (j : Int), ¬ (a = 112 ∧ j = (m : Int)) → s.2.1 a j = τ.1 a j) ∧ s.2.2 = τ.2 ∧ s.2.1 112 m = sN (f m) o) 8 (bigN hN) ⟨rfl, fun a j h => upI_ne h, rfl, up_same⟩ (fun o s ho hI => by
      obtain ⟨v, ρ⟩ := s
      obtain ⟨i1, i2, i3, i4⟩ := hI
      have i1 : v = o := i1
      subst i1
      have ix1 : ja (jm 8 (o : Int)) (m : Int) = 8 * o + m := ix8' (by omega) (by omega) (by omega) (by omega)
      have ix2 : ja (jm 8 (m : Int)) (o : Int) = 8 * m + o := ix8' (by omega) (by omega) (by omega) (by omega)
      have r1 : ρ.1 111 (8 * (o : Int) + m) = pAl D o m := (i2 _ _ (by omega)).trans (hP o m ho hm)
      have r2 : ρ.1 111 (8 * (m : Int) + o) = pAl D m o := (i2 _ _ (by omega)).trans (hP m o hm ho)
      have c1 := pAl_bd V K R (o : Int) (m : Int)
      have c2 := pAl_bd V K R (m : Int) (o : Int)
      have i4 : ρ.1 112 m = sN (f m) o := i4
      have s1 := fs m o (by omega)
      have s2 := fs m (o + 1) (by omega)
      have s2 : -137806608 ≤ sN (f m) o + (pAl D o m - pAl D m o) ∧ sN (f m) o + (pAl D o m - pAl D m o) ≤ 137806608 := s2
      refine ⟨((o : Int) + 1, upI ρ 112 m (sN (f m) o + (pAl D o m - pAl D m o))), ⟨by show (o : Int) + 1 = ((o + 1 : Nat) : Int); omega, fun a j h => (upI_ne h).trans (i2 a j h), i3, up_same⟩, fun z nx => ?_⟩
      show F_X12_laysBalances_B191 N z nx m o ρ = _
      unfold F_X12_laysBalances_B191
      rw [if_neg (by omega), inb_in (by omega), ix1, inb_in (by omega), ix2, inb_in (by omega), r1, r2, i4, js_eq ⟨by omega, by omega⟩, ja_1 (k := (o : Int)) (by omega) (by omega), ja_eq ⟨by omega, by omega⟩]) (fun s hI z nx => by
      obtain ⟨v, ρ⟩ := s
      have i1 : v = ((8 : Nat) : Int) := hI.1
      show F_X12_laysBalances_B191 N z nx m v ρ = z ((m : Int) + 1, ρ)
      unfold F_X12_laysBalances_B191 F_X12_laysBalances_J235
      rw [i1, if_pos (by omega), ja_1 (by omega) (by omega)])
    refine ⟨s.2, h5, h2, h3, ?_⟩
    rw [h4]
    show sN (fun o => pAl D (o : Int) (m : Int) - pAl D (m : Int) (o : Int)) 8 = bal D m
    rw [sN_sub (g := fun o : Nat => pAl D (o : Int) (m : Int)), pyIn V K R vz.1, pyOut V K R vz.1]
    rfl
  obtain ⟨s4, ⟨u1, u2, u3, u4⟩, u5⟩ := loop_A (b := fun q nx176 => F_X12_laysBalances_B176 N nx176 q.1 q.2) (fin := fun s => some s.2) (N := N) (s0 := ((0 : Int), s3.2)) (fun k s => s.1 = k ∧ (∀ a j, a ≠ 112 → s.2.1 a j = s3.2.1 a j) ∧ s.2.2 = σ1.2 ∧ ∀ m : Nat, m < k → s.2.1 112 m = bal D m) 8 (bigN hN) ⟨rfl, fun _ _ _ => rfl, t3, fun i hi => by omega⟩ (fun k s hk hI => by
    obtain ⟨v, τ⟩ := s
    obtain ⟨i1, i2, i3, i4⟩ := hI
    have i1 : v = k := i1
    subst i1
    obtain ⟨τ', b1, b2, b3, b4⟩ := inner k τ hk (fun x y hx hy => by rw [i2 _ _ (by decide)]; exact PA x y hx hy)
    refine ⟨((k : Int) + 1, τ'), ⟨by show (k : Int) + 1 = ((k + 1 : Nat) : Int); omega, fun a j h => (b2 a j (fun z => h z.1)).trans (i2 a j h), b3.trans i3, fun m hm => ?_⟩, fun nx => ?_⟩
    · show τ'.1 112 m = bal D m
      by_cases z : m = k
      · subst z; exact b4
      · rw [b2 _ _ (by omega)]; exact i4 m (by omega)
    · show F_X12_laysBalances_B176 N nx k τ = _
      unfold F_X12_laysBalances_B176
      rw [if_neg (by omega), inb_in (by omega)]
      exact b1 nx) (fun s hI nx => by
    obtain ⟨v, τ⟩ := s
    have i1 : v = ((8 : Nat) : Int) := hI.1
    show F_X12_laysBalances_B176 N nx v τ = some τ
    unfold F_X12_laysBalances_B176
    rw [i1, if_pos (by omega)])
  have mf : MO σ1 s4.2 := ⟨fun a j h => (u2 a j (by omega)).trans (t2 a j (by omega)), fun j => by rw [u3]⟩
  refine ⟨s4.2, by unfold F_X12_laysBalances_J174; exact u5, a2.cg V mf, a3.tr mf, fun x y hx hy => by rw [u2 _ _ (by decide)]; exact PA x y hx hy, u4⟩
theorem m_balance (hN : BigN N) (V : Val D) (K : GdD D) (R : RD D) (M : MK σ D) (m : Int) : QM σ D (F_X12_balance N m σ) (rBalance D m) := by
  have vz := V.sz
  obtain ⟨M', m'⟩ := M.up2 V 0
  unfold F_X12_balance rBalance
  rw [m_isMember M'.1, Option.bind_some]
  by_cases h : isM D m
  · obtain ⟨σ1, a1, a2, a3, a4, a5⟩ := m_laysBal hN V K R M'
    obtain ⟨x, rfl⟩ : ∃ x : Nat, m = x := ⟨m.toNat, by omega⟩
    rw [if_pos h, if_neg (by decide), if_pos h, a1, Option.bind_some, inb_in (by omega), a5 x (by omega)]
    exact ⟨σ1, rfl, a2, m'.tr a3⟩
  · rw [if_neg h, if_pos rfl, if_neg h]; exact QM.same V M rfl
theorem m_owes (hN : BigN N) (V : Val D) (K : GdD D) (R : RD D) (M : MK σ D) (x y : Int) : QM σ D (F_X12_owes N x y σ) (rOwes D x y) := by
  have vz := V.sz
  obtain ⟨M', m'⟩ := M.up2 V 0
  unfold F_X12_owes rOwes
  rw [m_areMembers M'.1, Option.bind_some]
  by_cases h : isM D x ∧ isM D y
  · rw [if_pos h, if_neg (by decide)]
    by_cases e : x = y
    · rw [if_pos e, if_neg (fun z => z.1 e)]; exact QM.same V M rfl
    · obtain ⟨σ1, a1, a2, a3, a4, a5⟩ := m_laysBal hN V K R M'
      obtain ⟨p, rfl⟩ : ∃ p : Nat, x = p := ⟨x.toNat, by omega⟩
      obtain ⟨q, rfl⟩ : ∃ q : Nat, y = q := ⟨y.toNat, by omega⟩
      have ix1 : ja (jm 8 (p : Int)) (q : Int) = 8 * p + q := ix8' (by omega) (by omega) (by omega) (by omega)
      have ix2 : ja (jm 8 (q : Int)) (p : Int) = 8 * q + p := ix8' (by omega) (by omega) (by omega) (by omega)
      have c1 := pAl_bd V K R (p : Int) (q : Int)
      have c2 := pAl_bd V K R (q : Int) (p : Int)
      rw [if_neg e, if_pos ⟨e, h⟩, a1, Option.bind_some, ix1, inb_in (by omega), ix2, inb_in (by omega), a4 p q (by omega) (by omega), a4 q p (by omega) (by omega), js_eq ⟨by omega, by omega⟩]
      exact ⟨σ1, rfl, a2, m'.tr a3⟩
  · rw [if_neg h, if_pos rfl, if_neg (fun z => h z.2)]; exact QM.same V M rfl
/-- one payment -/
theorem m_settlesOne (hN : BigN N) {n : Nat} (hn : n ≤ 8) {B : Nat → Int} (hB : BOk n B) (h11 : σ.1 94 11 = n) (h : ∀ i : Nat, i < n → σ.1 112 i = B i) : ∃ r σ', F_X12_settlesOne N σ = some (r, σ') ∧ σ'.1 94 11 = n ∧ ((r = 0 ∧ stopB n B) ∨ (r = 1 ∧ ¬ stopB n B ∧ (∀ i : Nat, i < n → σ'.1 112 i = stB n B i) ∧ σ'.1 94 44 = (amin B n : Nat) ∧ σ'.1 94 45 = (amax B n : Nat) ∧ σ'.1 94 46 = pyA n B)) := by
  unfold F_X12_settlesOne
  obtain ⟨s, ⟨h1, h2, h3, h4⟩, h5⟩ := loop_A (b := fun q nx12 => F_X12_settlesOne_B12 N nx12 q.1 q.2) (fin := fun s => F_X12_settlesOne_J72 N s.2) (N := N) (s0 := ((1 : Int), upI (upI σ 94 44 0) 94 45 0)) (fun j s => s.1 = ((j + 1 : Nat) : Int) ∧ (∀ a i, ¬ (a = 94 ∧ (i = 44 ∨ i = 45)) → s.2.1 a i = σ.1 a i) ∧ s.2.1 94 44 = (amin B (j + 1) : Nat) ∧ s.2.1 94 45 = (amax B (j + 1) : Nat)) (n - 1) (bigN hN) ⟨rfl, fun a i q => by rw [upI_ne (by omega), upI_ne (by omega)], by
    show (upI (upI σ 94 44 0) 94 45 0).1 94 44 = (((if B 0 < B 0 then 0 else 0 : Nat)) : Int)
    rw [up_ix (by decide), up_same, if_neg (by omega)]; rfl, by
    show (upI (upI σ 94 44 0) 94 45 0).1 94 45 = (((if B 0 < B 0 then 0 else 0 : Nat)) : Int)
    rw [up_same, if_neg (by omega)]; rfl⟩ (fun j s hj hI => by
    obtain ⟨v, τ⟩ := s
    obtain ⟨i1, i2, i3, i4⟩ := hI
    have i1 : v = ((j + 1 : Nat) : Int) := i1
    subst i1
    have l1 := (amin_ok (B := B) (n := j + 1)).1 (by omega)
    have l2 := (amax_ok (B := B) (n := j + 1)).1 (by omega)
    have e11 : τ.1 94 11 = n := (i2 _ _ (by omega)).trans h11
    have eB : ∀ i : Nat, i < n → τ.1 112 i = B i := fun i hi => (i2 _ _ (by omega)).trans (h i hi)
    have i3 : τ.1 94 44 = (amin B (j + 1) : Nat) := i3
    have i4 : τ.1 94 45 = (amax B (j + 1) : Nat) := i4
    have eA : amin B (j + 1 + 1) = if B (j + 1) < B (amin B (j + 1)) then j + 1 else amin B (j + 1) := rfl
    have eZ : amax B (j + 1 + 1) = if B (amax B (j + 1)) < B (j + 1) then j + 1 else amax B (j + 1) := rfl
    let τ1 : Sto := if B (j + 1) < B (amin B (j + 1)) then upI τ 94 44 ((j + 1 : Nat) : Int) else τ
    have t1 : ∀ a i, ¬ (a = 94 ∧ i = 44) → τ1.1 a i = τ.1 a i := fun a i q => by
      show (if B (j + 1) < B (amin B (j + 1)) then upI τ 94 44 ((j + 1 : Nat) : Int) else τ).1 a i = _
      split
      · exact upI_ne q
      · rfl
    have t2 : τ1.1 94 44 = (amin B (j + 1 + 1) : Nat) := by
      show (if B (j + 1) < B (amin B (j + 1)) then upI τ 94 44 ((j + 1 : Nat) : Int) else τ).1 94 44 = _
      rw [eA]
      split
      · exact up_same
      · exact i3
    refine ⟨(((j + 1 + 1 : Nat) : Int), if B (amax B (j + 1)) < B (j + 1) then upI τ1 94 45 ((j + 1 : Nat) : Int) else τ1), ⟨rfl, fun a i q => ?_, ?_, ?_⟩, fun nx => ?_⟩
    · show (if B (amax B (j + 1)) < B (j + 1) then upI τ1 94 45 ((j + 1 : Nat) : Int) else τ1).1 a i = _
      split
      · rw [upI_ne (by omega), t1 a i (by omega)]; exact i2 a i q
      · rw [t1 a i (by omega)]; exact i2 a i q
    · show (if B (amax B (j + 1)) < B (j + 1) then upI τ1 94 45 ((j + 1 : Nat) : Int) else τ1).1 94 44 = _
      split
      · rw [up_ix (by decide)]; exact t2
      · exact t2
    · show (if B (amax B (j + 1)) < B (j + 1) then upI τ1 94 45 ((j + 1 : Nat) : Int) else τ1).1 94 45 = _
      rw [eZ]
      split
      · exact up_same
      · rw [t1 _ _ (by omega)]; exact i4
    · show F_X12_settlesOne_B12 N nx ((j + 1 : Nat) : Int) τ = _
      have step2 : F_X12_settlesOne_J43 N nx ((j + 1 : Nat) : Int) τ1 = nx (((j + 1 + 1 : Nat) : Int), if B (amax B (j + 1)) < B (j + 1) then upI τ1 94 45 ((j + 1 : Nat) : Int) else τ1) := by
        unfold F_X12_settlesOne_J43 F_X12_settlesOne_J66
        rw [t1 94 45 (by omega), i4, inb_in (by omega), inb_in (by omega), t1 112 _ (by omega), t1 112 _ (by omega), eB _ (by omega), eB _ (by omega), ja_1 (by omega) (by omega), show ((j + 1 + 1 : Nat) : Int) = ((j + 1 : Nat) : Int) + 1 by omega]
        by_cases q : B (amax B (j + 1)) < B (j + 1)
        · rw [if_neg (by omega), if_pos q]
        · rw [if_pos (by omega), if_neg q]
      unfold F_X12_settlesOne_B12
      rw [e11, if_neg (by omega), inb_in (by omega), i3, inb_in (by omega), eB _ (by omega), eB _ (by omega)]
      rw [← step2]
      show _ = F_X12_settlesOne_J43 N nx ((j + 1 : Nat) : Int) (if B (j + 1) < B (amin B (j + 1)) then upI τ 94 44 ((j + 1 : Nat) : Int) else τ)
      by_cases q : B (j + 1) < B (amin B (j + 1))
      · rw [if_neg (by omega), if_pos q]
      · rw [if_pos (by omega), if_neg q]) (fun s hI nx => by
    obtain ⟨v, τ⟩ := s
    obtain ⟨i1, i2, i3, i4⟩ := hI
    have i1 : v = ((n - 1 + 1 : Nat) : Int) := i1
    have e11 : τ.1 94 11 = n := (i2 _ _ (by omega)).trans h11
    show F_X12_settlesOne_B12 N nx v τ = F_X12_settlesOne_J72 N τ
    unfold F_X12_settlesOne_B12
    rw [e11, i1, if_pos (by omega)])
  rw [h5]
  generalize s.2 = τ at h2 h3 h4 ⊢
  have e11 : τ.1 94 11 = n := (h2 _ _ (by omega)).trans h11
  have eB : ∀ i : Nat, i < n → τ.1 112 i = B i := fun i hi => (h2 _ _ (by omega)).trans (h i hi)
  show ∃ r σ', F_X12_settlesOne_J72 N τ = some (r, σ') ∧ _
  unfold F_X12_settlesOne_J72
  rw [e11]
  by_cases hn0 : n = 0
  · rw [if_pos (by omega)]
    exact ⟨0, τ, rfl, e11, Or.inl ⟨rfl, Or.inl hn0⟩⟩
  · have h3 : τ.1 94 44 = (amin B n : Nat) := by rw [h3, show n - 1 + 1 = n by omega]
    have h4 : τ.1 94 45 = (amax B n : Nat) := by rw [h4, show n - 1 + 1 = n by omega]
    have l1 := (amin_ok (B := B) (n := n)).1 (by omega)
    have l2 := (amax_ok (B := B) (n := n)).1 (by omega)
    have bl := hB.2 _ l1
    have bh := hB.2 _ l2
    rw [if_neg (by omega), h3, h4, inb_in (by omega), eB _ l1, eB _ l2]
    by_cases q : stopB n B
    · have q0 : 0 ≤ B (amin B n) := by
        rcases q with q | q
        · exact absurd q hn0
        · exact q
      rw [if_neg (by omega)]
      exact ⟨0, τ, rfl, e11, Or.inl ⟨rfl, q⟩⟩
    · obtain ⟨-, -, -, g1, g2, hne⟩ := max_pos hB q
      have fin : ∃ σ', F_X12_settlesOne_J138 N (pyA n B) τ = some (1, σ') ∧ σ'.1 94 11 = n ∧ (∀ i : Nat, i < n → σ'.1 112 i = stB n B i) ∧ σ'.1 94 44 = (amin B n : Nat) ∧ σ'.1 94 45 = (amax B n : Nat) ∧ σ'.1 94 46 = pyA n B := by
        have m := mn_le (a := -B (amin B n)) (b := B (amax B n))
        have m1 : pyA n B ≤ -B (amin B n) := m.1
        have m2 : pyA n B ≤ B (amax B n) := m.2.1
        have m3 : pyA n B = -B (amin B n) ∨ pyA n B = B (amax B n) := m.2.2
        have c1 : (upI τ 94 46 (pyA n B)).1 94 44 = (amin B n : Nat) := (up_ix (by decide)).trans h3
        have c2 : (upI τ 94 46 (pyA n B)).1 94 46 = pyA n B := up_same
        have c3 : ∀ i, (upI τ 94 46 (pyA n B)).1 112 i = τ.1 112 i := fun i => up_pl (by decide)
        have c4 : ∀ (ρ : Sto) (j v i : Int), (upI ρ 112 j v).1 94 i = ρ.1 94 i := fun _ _ _ _ => up_pl (by decide)
        have c5 : (upI τ 94 46 (pyA n B)).1 94 45 = (amax B n : Nat) := (up_ix (by decide)).trans h4
        unfold F_X12_settlesOne_J138
        simp only [c4, c1, c2, c3, c5]
        have hne' : ((amax B n : Nat) : Int) ≠ (amin B n : Nat) := fun z => hne (by omega)
        have e2 : ∀ w : Int, (upI (upI τ 94 46 (pyA n B)) 112 ((amin B n : Nat) : Int) w).1 112 ((amax B n : Nat) : Int) = τ.1 112 ((amax B n : Nat) : Int) := fun w => (up_ix hne').trans (c3 _)
        rw [inb_in (by omega), inb_in (by omega), e2, eB _ l1, eB _ l2, ja_eq ⟨by omega, by omega⟩, js_eq ⟨by omega, by omega⟩]
        refine ⟨_, rfl, ?_, fun i hi => ?_, ?_, ?_, ?_⟩
        · rw [c4, c4, up_ix (by decide)]; exact e11
        · unfold stB
          by_cases q1 : i = amin B n
          · subst q1
            rw [up_ix (by omega), up_same, if_pos rfl, if_neg hne, Int.sub_zero]
          · rw [if_neg q1]
            by_cases q2 : i = amax B n
            · subst q2
              rw [up_same, if_pos rfl, Int.add_zero]
            · rw [up_ix (by omega), up_ix (by omega), c3, if_neg q2, Int.add_zero, Int.sub_zero, eB i hi]
        · rw [c4, c4]; exact c1
        · rw [c4, c4]; exact c5
        · rw [c4, c4]; exact c2
      obtain ⟨σ', f1, f2, f3, f4, f5, f6⟩ := fin
      refine ⟨1, σ', ?_, f2, Or.inr ⟨rfl, q, f3, f4, f5, f6⟩⟩
      rw [if_pos g1, inb_in (by omega), jneg_eq ⟨by omega, by omega⟩, ← f1]
      unfold pyA mn
      by_cases z : -B (amin B n) < B (amax B n)
      · rw [if_neg (by omega), if_pos z]
      · rw [if_pos (by omega), if_neg z]
theorem m_settles (hN : BigN N) (V : Val D) (K : GdD D) (R : RD D) (M : MK σ D) : QM σ D (F_X12_settles N σ) (rSettles D) := by
  have vz := V.sz
  have hB := bal_ok V K R
  have hT := sT_is hB
  obtain ⟨M', m'⟩ := M.up2 V 0
  obtain ⟨σ1, a1, a2, a3, a4, a5⟩ := m_laysBal hN V K R M'
  have key : ∃ σ', F_X12_settles N σ = some (rSettles D, σ') := by
    unfold F_X12_settles
    rw [a1, Option.bind_some]
    obtain ⟨r, r1, r2⟩ := loop_E (X := Unit) (R' := Int × Sto) (b := fun _ q nx11 => F_X12_settles_B11 N nx11 q.1 q.2) (fin := fun _ r => some r) (N := N) (s0 := ((0 : Int), σ1)) (fun k s => s.1 = k ∧ s.2.1 94 11 = (dm D : Int) ∧ (∀ i : Nat, i < dm D → s.2.1 112 i = bsq (dm D) (balN D) k i) ∧ ∀ j, j < k → ¬ stopB (dm D) (bsq (dm D) (balN D) j)) (fun r => r.1 = rSettles D) (dm D) (bigN hN) ⟨rfl, a2.1.1.1.1, fun i hi => a5 i (by omega), fun j hj => by omega⟩ (fun k s hk hI => by
      obtain ⟨v, τ⟩ := s
      obtain ⟨i1, i2, i3, i4⟩ := hI
      have i1 : v = k := i1
      subst i1
      obtain ⟨ok, -⟩ := bsq_ok hB k i4
      obtain ⟨r, τ', b1, b2, b3⟩ := m_settlesOne (N := N) hN vz.1 ok i2 i3
      rcases b3 with ⟨rfl, b3⟩ | ⟨rfl, b3, b4, -⟩
      · have : sT (dm D) (balN D) = k := hT.uniq ⟨hk, i4, b3⟩
        refine Or.inr ⟨((k : Int), τ'), by show (k : Int) = ((sT (dm D) (balN D) : Nat) : Int); rw [this], fun _ nx => ?_⟩
        show F_X12_settles_B11 N nx k τ = _
        unfold F_X12_settles_B11
        rw [b1, Option.bind_some]
        exact if_pos rfl
      · have hlt : k < dm D := by
          rcases Nat.lt_or_ge k (dm D) with z | z
          · exact z
          · have e : k = dm D := by omega
            subst e
            exact absurd (stop_n hB i4) b3
        refine Or.inl ⟨hlt, ((k : Int) + 1, τ'), ⟨by show (k : Int) + 1 = ((k + 1 : Nat) : Int); omega, b2, b4, fun j hj => ?_⟩, fun _ nx => ?_⟩
        · by_cases z : j = k
          · subst z; exact b3
          · exact i4 j (by omega)
        · show F_X12_settles_B11 N nx k τ = _
          unfold F_X12_settles_B11
          rw [b1, Option.bind_some]
          show (if (1 : Int) = 0 then _ else nx (ja (k : Int) 1, τ')) = _
          rw [if_neg (by decide), ja_1 (by omega) (by omega)])
    exact ⟨r.2, (r2 ()).trans (by show some r = some (rSettles D, r.2); rw [← r1])⟩
  obtain ⟨σ', e⟩ := key
  have f := fr_X12_settles e
  exact QM.of V M e ⟨fun a j h => f.1 a j (fun z => by unfold Wr_X12_settles at z; omega), fun j => f.2 49 j (fun z => by unfold Wr_X12_settles at z; omega)⟩
theorem m_settling (hN : BigN N) (V : Val D) (K : GdD D) (R : RD D) (M : MK σ D) (k w : Int) (hk : inR k) : QM σ D (F_X12_settling N k w σ) (rSettling D k w) := by
  have vz := V.sz
  have hB := bal_ok V K R
  have hT := sT_is hB
  obtain ⟨M', m'⟩ := M.up2 V 0
  have key : ∃ σ', F_X12_settling N k w σ = some (rSettling D k w, σ') := by
    unfold F_X12_settling
    by_cases h1 : k < 0
    · rw [if_pos h1]
      unfold rSettling
      rw [if_neg (by omega)]
      exact ⟨_, rfl⟩
    · rw [if_neg h1, m_isIn, Option.bind_some]
      by_cases h2 : 0 ≤ w ∧ w ≤ 2
      · obtain ⟨σ1, a1, a2, a3, a4, a5⟩ := m_laysBal hN V K R M'
        rw [if_pos h2, if_neg (by decide), a1, Option.bind_some]
        have hlast : ∀ i : Nat, (i : Int) ≤ k → i ≤ sT (dm D) (balN D) → i ≤ dm D := fun i _ h => by have := hT.1; omega
        obtain ⟨r, r1, r2⟩ := loop_E (X := Unit) (R' := Int × Sto) (b := fun _ q nx26 => F_X12_settling_B26 N nx26 k w q.1 q.2) (fin := fun _ r => some r) (N := N) (s0 := ((0 : Int), σ1)) (fun i s => s.1 = i ∧ (i : Int) ≤ k + 1 ∧ s.2.1 94 11 = (dm D : Int) ∧ (∀ x : Nat, x < dm D → s.2.1 112 x = bsq (dm D) (balN D) i x) ∧ (∀ j, j < i → ¬ stopB (dm D) (bsq (dm D) (balN D) j)) ∧ (0 < i → s.2.1 94 44 = (amin (bsq (dm D) (balN D) (i - 1)) (dm D) : Nat) ∧ s.2.1 94 45 = (amax (bsq (dm D) (balN D) (i - 1)) (dm D) : Nat) ∧ s.2.1 94 46 = pyA (dm D) (bsq (dm D) (balN D) (i - 1)))) (fun r => r.1 = rSettling D k w) (dm D + 1) (bigN hN) ⟨rfl, by omega, a2.1.1.1.1, fun i hi => a5 i (by omega), fun j hj => by omega, fun h => by omega⟩ (fun i s hi hI => by
          obtain ⟨v, τ⟩ := s
          obtain ⟨i1, i0, i2, i3, i4, i5⟩ := hI
          have i1 : v = i := i1
          subst i1
          by_cases e : k < i
          · have hi0 : 0 < i := by omega
            have ek : k = ((i - 1 : Nat) : Int) := by omega
            have hlt : i - 1 < sT (dm D) (balN D) := by
              rcases Nat.lt_or_ge (i - 1) (sT (dm D) (balN D)) with z | z
              · exact z
              · exact absurd hT.2.2 (i4 _ (by omega))
            obtain ⟨j1, j2, j3⟩ := i5 hi0
            have j1 : τ.1 94 44 = _ := j1
            have j2 : τ.1 94 45 = _ := j2
            have j3 : τ.1 94 46 = _ := j3
            refine Or.inr ⟨(rSettling D k w, τ), rfl, fun _ nx => ?_⟩
            show F_X12_settling_B26 N nx k w i τ = _
            unfold F_X12_settling_B26 F_X12_settling_J47 rSettling
            rw [if_pos e, j1, j2, j3, if_pos (show 0 ≤ k ∧ 0 ≤ w ∧ w ≤ 2 by omega), if_pos (show k < ((sT (dm D) (balN D) : Nat) : Int) by omega), show k.toNat = i - 1 by omega]
            by_cases w0 : w = 0
            · rw [if_pos w0, if_pos w0]
            · rw [if_neg w0, if_neg w0]
              by_cases w1 : w = 1
              · rw [if_pos w1, if_pos w1]
              · rw [if_neg w1, if_neg w1]
          · have hb : i ≤ dm D := by
              rcases Nat.lt_or_ge (dm D) i with z | z
              · exact absurd hT.2.2 (i4 _ (by have := hT.1; omega))
              · exact z
            obtain ⟨ok, -⟩ := bsq_ok hB i i4
            obtain ⟨r, τ', b1, b2, b3⟩ := m_settlesOne (N := N) hN vz.1 ok i2 i3
            rcases b3 with ⟨rfl, b3⟩ | ⟨rfl, b3, b4, b5⟩
            · have : sT (dm D) (balN D) = i := hT.uniq ⟨hb, i4, b3⟩
              refine Or.inr ⟨(-2, τ'), ?_, fun _ nx => ?_⟩
              · show -2 = rSettling D k w
                unfold rSettling
                rw [if_pos ⟨by omega, h2⟩, if_neg (by rw [this]; omega)]
              · show F_X12_settling_B26 N nx k w i τ = _
                unfold F_X12_settling_B26
                rw [if_neg e, b1, Option.bind_some]
                exact if_pos rfl
            · refine Or.inl ⟨by omega, ((i : Int) + 1, τ'), ⟨by show (i : Int) + 1 = ((i + 1 : Nat) : Int); omega, by omega, b2, b4, fun j hj => ?_, fun _ => b5⟩, fun _ nx => ?_⟩
              · by_cases z : j = i
                · subst z; exact b3
                · exact i4 j (by omega)
              · show F_X12_settling_B26 N nx k w i τ = _
                unfold F_X12_settling_B26
                rw [if_neg e, b1, Option.bind_some]
                show (if (1 : Int) = 0 then _ else nx (ja (i : Int) 1, τ')) = _
                rw [if_neg (by decide), ja_1 (by omega) (by omega)])
        exact ⟨r.2, (r2 ()).trans (by show some r = some (rSettling D k w, r.2); rw [← r1])⟩
      · rw [if_neg h2, if_pos rfl]
        unfold rSettling
        rw [if_neg (fun z => h2 z.2)]
        exact ⟨_, rfl⟩
  obtain ⟨σ', e⟩ := key
  have f := fr_X12_settling e
  exact QM.of V M e ⟨fun a j h => f.1 a j (fun z => by unfold Wr_X12_settling at z; omega), fun j => f.2 49 j (fun z => by unfold Wr_X12_settling at z; omega)⟩
end MSET
