/-! FEED -/
theorem jand_255 {a : Int} (h : inR a) : jand a 255 = a % 256 := by
  have key : ∀ n : Nat, ∀ i, ((n : Nat).testBit i && (255 : Nat).testBit i) = (n % 256).testBit i := fun n i => by
    rw [show (255 : Nat) = 2 ^ 8 - 1 from rfl, show (256 : Nat) = 2 ^ 8 from rfl, Nat.testBit_two_pow_sub_one, Nat.testBit_mod_two_pow, Bool.and_comm]
  have hr := h.1
  have hr2 := h.2
  by_cases h0 : 0 ≤ a
  · obtain ⟨n, rfl⟩ : ∃ n : Nat, a = n := ⟨a.toNat, by omega⟩
    refine tb_ext (jand_R _ _) ⟨by omega, by omega⟩ (fun i hi => ?_)
    rw [tb_and, tb_nat n hi, show (255 : Int) = ((255 : Nat) : Int) from rfl, tb_nat _ hi, key n i, show (n : Int) % 256 = ((n % 256 : Nat) : Int) by omega, tb_nat _ hi]
  · obtain ⟨n, hn⟩ : ∃ n : Nat, a + 4294967296 = n := ⟨(a + 4294967296).toNat, by omega⟩
    refine tb_ext (jand_R _ _) ⟨by omega, by omega⟩ (fun i hi => ?_)
    rw [tb_and, ← tb_wrap (a := a) i, hn, tb_nat n hi, show (255 : Int) = ((255 : Nat) : Int) from rfl, tb_nat _ hi, key n i, show a % 256 = ((n % 256 : Nat) : Int) by omega, tb_nat _ hi]
theorem ji2b_eq {a : Int} (h : inR a) : (-128 ≤ ji2b a ∧ ji2b a ≤ 127) ∧ ji2b a % 256 = a % 256 := by
  have e : ji2b a = a.bmod (2 ^ 8) := by
    unfold ji2b
    rw [Int8.toInt_toInt32, Int32.toInt_toInt8, t_ofI h]
  rw [e, Int.bmod_def]
  split <;> omega
section FEE
variable {N : Nat} {σ : Sto}
theorem MK.mut2 {σ' : Sto} {D E : Dk} (M : MK σ D) (T : TxM σ D → TxM σ E) (h3 : E.2 0 3 = D.2 0 3) (B : BkM σ' 0 E) (e : ∀ a j, (a = 94 ∧ (j = 11 ∨ j = 14 ∨ j = 24 ∨ j = 31 ∨ j = 32 ∨ j = 33 ∨ j = 38)) ∨ a = 97 ∨ a = 98 ∨ a = 100 → σ'.1 a j = σ.1 a j) : MK σ' E := ⟨⟨(T M.1.1).cg (fun j q => e _ _ (by omega)) (fun j => e _ _ (by omega)) (fun j => e _ _ (by omega)) (fun j _ => e _ _ (by omega)), 0, Or.inl rfl, (e _ _ (by omega)).trans M.2.1, B⟩, (e _ _ (by omega)).trans M.2.1, (e _ _ (by omega)).trans M.2.2.1, (e _ _ (by omega)).trans M.2.2.2.1, by rw [e _ _ (by omega), h3]; exact M.2.2.2.2⟩
theorem k_put (hN : BigN N) {t : Nat} (ht : t + 4 ≤ 700) (h : σ.1 1 1 = t) (v : Int) : ∃ σ', F_X8_put N v σ = some σ' ∧ σ'.1 1 1 = ((t + 4 : Nat) : Int) ∧ (∀ i : Nat, i < 4 → σ'.1 2 ((t + i : Nat) : Int) = ji2b (jshr v (24 - 8 * (i : Int)))) ∧ (∀ y z, ¬ (y = 1 ∧ z = 1) → ¬ (y = 2 ∧ (t : Int) ≤ z) → σ'.1 y z = σ.1 y z) ∧ σ'.2 = σ.2 := by
  unfold F_X8_put
  obtain ⟨s, ⟨h1, h2, h3, h4, h5⟩, h6⟩ := loop_A (b := fun q nx3 => F_X8_put_B3 N nx3 v q.1 q.2) (fin := fun s => some s.2) (N := N) (s0 := ((24 : Int), σ)) (fun k s => s.1 = 24 - 8 * (k : Int) ∧ s.2.1 1 1 = ((t + k : Nat) : Int) ∧ (∀ i : Nat, i < k → s.2.1 2 ((t + i : Nat) : Int) = ji2b (jshr v (24 - 8 * (i : Int)))) ∧ (∀ y z, ¬ (y = 1 ∧ z = 1) → ¬ (y = 2 ∧ (t : Int) ≤ z) → s.2.1 y z = σ.1 y z) ∧ s.2.2 = σ.2) 4 (bigN hN) ⟨by omega, h, fun i hi => by omega, fun _ _ _ _ => rfl, rfl⟩ (fun k s hk hI => by
    obtain ⟨w, τ⟩ := s
    obtain ⟨i1, i2, i3, i4, i5⟩ := hI
    have i1 : w = 24 - 8 * (k : Int) := i1
    subst i1
    have i2 : τ.1 1 1 = ((t + k : Nat) : Int) := i2
    have e1 : (upI τ 2 ((t + k : Nat) : Int) (ji2b (jshr v (24 - 8 * (k : Int))))).1 1 1 = ((t + k : Nat) : Int) := (up_pl (by decide)).trans i2
    refine ⟨(24 - 8 * ((k + 1 : Nat) : Int), upI (upI τ 2 ((t + k : Nat) : Int) (ji2b (jshr v (24 - 8 * (k : Int))))) 1 1 ((t + (k + 1) : Nat) : Int)), ⟨rfl, up_same, fun i hi => ?_, fun y z q1 q2 => ?_, i5⟩, fun nx => ?_⟩
    · show (upI (upI τ 2 _ _) 1 1 _).1 2 _ = _
      rw [up_pl (by decide)]
      by_cases e : i = k
      · subst e; rw [up_same]
      · rw [up_ix (by omega)]; exact i3 i (by omega)
    · show (upI (upI τ 2 _ _) 1 1 _).1 y z = _
      rw [upI_ne q1, upI_ne (by omega)]; exact i4 y z q1 q2
    · show F_X8_put_B3 N nx v (24 - 8 * (k : Int)) τ = _
      unfold F_X8_put_B3 F_X8_put_J40
      rw [if_neg (by omega), i2, if_neg (by omega), inb_in (by omega), e1, ja_1 (by omega) (by omega), js_eq ⟨by omega, by omega⟩, show 24 - 8 * (k : Int) - 8 = 24 - 8 * ((k + 1 : Nat) : Int) by omega, show ((t + k : Nat) : Int) + 1 = ((t + (k + 1) : Nat) : Int) by omega]) (fun s hI nx => by
    obtain ⟨w, τ⟩ := s
    have i1 : w = 24 - 8 * ((4 : Nat) : Int) := hI.1
    show F_X8_put_B3 N nx v w τ = some τ
    unfold F_X8_put_B3
    rw [if_pos (by omega)])
  exact ⟨s.2, h6, h2, h3, h4, h5⟩
/-- the number that a byte comes from -/
def fdV (a b c d e : Int) (k : Nat) : Int := if k < 4 then a else if k < 8 then b else if k < 12 then c else if k < 16 then d else e
theorem x_feed (hN : BigN N) {t : Nat} (ht : t ≤ 700) (h : σ.1 1 1 = t) (a b c d e : Int) : ∃ σ', F_X11_feed N a b c d e σ = some ((if t + 20 ≤ 700 then ((t + 20 : Nat) : Int) else -1), σ') ∧ (¬ t + 20 ≤ 700 → σ' = σ) ∧ (t + 20 ≤ 700 → σ'.1 1 1 = ((t + 20 : Nat) : Int) ∧ (∀ k : Nat, k < 20 → σ'.1 2 ((t + k : Nat) : Int) = ji2b (jshr (fdV a b c d e k) (24 - 8 * ((k % 4 : Nat) : Int)))) ∧ (∀ y z, ¬ (y = 1 ∧ z = 1) → ¬ (y = 2 ∧ (t : Int) ≤ z) → σ'.1 y z = σ.1 y z) ∧ σ'.2 = σ.2) := by
  unfold F_X11_feed
  rw [h, ja_eq ⟨by omega, by omega⟩]
  by_cases q : t + 20 ≤ 700
  · rw [if_pos (by omega), if_pos q]
    obtain ⟨s1, a1, a2, a3, a4, a5⟩ := k_put (N := N) (σ := σ) hN (t := t) (by omega) h a
    obtain ⟨s2, b1, b2, b3, b4, b5⟩ := k_put (N := N) (σ := s1) hN (t := t + 4) (by omega) a2 b
    obtain ⟨s3, c1, c2, c3, c4, c5⟩ := k_put (N := N) (σ := s2) hN (t := t + 4 + 4) (by omega) b2 c
    obtain ⟨s4, d1, d2, d3, d4, d5⟩ := k_put (N := N) (σ := s3) hN (t := t + 4 + 4 + 4) (by omega) c2 d
    obtain ⟨s5, e1, e2, e3, e4, e5⟩ := k_put (N := N) (σ := s4) hN (t := t + 4 + 4 + 4 + 4) (by omega) d2 e
    rw [a1, Option.bind_some, b1, Option.bind_some, c1, Option.bind_some, d1, Option.bind_some, e1, Option.bind_some, e2]
    refine ⟨s5, rfl, fun z => absurd q z, fun _ => ⟨by rw [e2], fun k hk => ?_, fun y z q1 q2 => ?_, by rw [e5, d5, c5, b5, a5]⟩⟩
    · unfold fdV
      rcases (by omega : k < 4 ∨ (4 ≤ k ∧ k < 8) ∨ (8 ≤ k ∧ k < 12) ∨ (12 ≤ k ∧ k < 16) ∨ 16 ≤ k) with z | z | z | z | z
      · rw [if_pos z, e4 _ _ (by omega) (by omega), d4 _ _ (by omega) (by omega), c4 _ _ (by omega) (by omega), b4 _ _ (by omega) (by omega), a3 k z, show k % 4 = k by omega]
      · have := b3 (k - 4) (by omega)
        rw [show t + 4 + (k - 4) = t + k by omega] at this
        rw [if_neg (by omega), if_pos z.2, e4 _ _ (by omega) (by omega), d4 _ _ (by omega) (by omega), c4 _ _ (by omega) (by omega), this, show k % 4 = k - 4 by omega]
      · have := c3 (k - 8) (by omega)
        rw [show t + 4 + 4 + (k - 8) = t + k by omega] at this
        rw [if_neg (by omega), if_neg (by omega), if_pos z.2, e4 _ _ (by omega) (by omega), d4 _ _ (by omega) (by omega), this, show k % 4 = k - 8 by omega]
      · have := d3 (k - 12) (by omega)
        rw [show t + 4 + 4 + 4 + (k - 12) = t + k by omega] at this
        rw [if_neg (by omega), if_neg (by omega), if_neg (by omega), if_pos z.2, e4 _ _ (by omega) (by omega), this, show k % 4 = k - 12 by omega]
      · have := e3 (k - 16) (by omega)
        rw [show t + 4 + 4 + 4 + 4 + (k - 16) = t + k by omega] at this
        rw [if_neg (by omega), if_neg (by omega), if_neg (by omega), if_neg (by omega), this, show k % 4 = k - 16 by omega]
    · rw [e4 y z q1 (by omega), d4 y z q1 (by omega), c4 y z q1 (by omega), b4 y z q1 (by omega), a4 y z q1 q2]
  · rw [if_neg (by omega), if_neg q]
    exact ⟨σ, rfl, fun _ => rfl, fun z => absurd z q⟩
theorem m_feed (hN : BigN N) {t : Nat} (ht : t ≤ 700) (h : σ.1 94 1 = t) (a b c d e : Int) : ∃ σ', F_X12_feed N a b c d e σ = some ((if t + 20 ≤ 700 then ((t + 20 : Nat) : Int) else -1), σ') ∧ (¬ t + 20 ≤ 700 → σ' = upI σ 94 2 0) ∧ (t + 20 ≤ 700 → σ'.1 94 1 = ((t + 20 : Nat) : Int) ∧ (∀ k : Nat, k < 20 → σ'.1 95 ((t + k : Nat) : Int) = jand (jshr (fdV a b c d e k) (24 - 8 * ((k % 4 : Nat) : Int))) 255) ∧ (∀ y z, ¬ (y = 94 ∧ (z = 1 ∨ z = 2)) → ¬ (y = 95 ∧ (t : Int) ≤ z) → σ'.1 y z = σ.1 y z) ∧ σ'.2 = σ.2) := by
  have e1 : (upI σ 94 2 0).1 94 1 = t := (up_ix (by decide)).trans h
  unfold F_X12_feed
  rw [e1, ja_eq ⟨by omega, by omega⟩]
  by_cases q : t + 20 ≤ 700
  · rw [if_pos (by omega), if_pos q]
    obtain ⟨s, ⟨h1, h2, h3, h4⟩, h6⟩ := loop_A (b := fun q nx23 => F_X12_feed_B23 N nx23 a b c d e q.1 q.2) (fin := fun s => F_X12_feed_J113 N s.2) (N := N) (s0 := ((0 : Int), upI σ 94 2 0)) (fun k s => s.1 = k ∧ (∀ i : Nat, i < k → s.2.1 95 ((t + i : Nat) : Int) = jand (jshr (fdV a b c d e i) (24 - 8 * ((i % 4 : Nat) : Int))) 255) ∧ (∀ y z, ¬ (y = 95 ∧ (t : Int) ≤ z) → s.2.1 y z = (upI σ 94 2 0).1 y z) ∧ s.2.2 = σ.2) 20 (bigN hN) ⟨rfl, fun i hi => by omega, fun _ _ _ => rfl, rfl⟩ (fun k s hk hI => by
      obtain ⟨w, τ⟩ := s
      obtain ⟨i1, i2, i3, i4⟩ := hI
      have i1 : w = k := i1
      subst i1
      have t1 : τ.1 94 1 = t := (i3 _ _ (by omega)).trans e1
      have r4 : jrem (k : Int) 4 = ((k % 4 : Nat) : Int) := by rw [jrem_eq ⟨by omega, by omega⟩ ⟨by decide, by decide⟩ (by omega) (by decide)]; omega
      have sh : js 24 (jm 8 ((k % 4 : Nat) : Int)) = 24 - 8 * ((k % 4 : Nat) : Int) := by rw [jm_eq ⟨by omega, by omega⟩, js_eq ⟨by omega, by omega⟩]
      refine ⟨((k : Int) + 1, upI τ 95 ((t + k : Nat) : Int) (jand (jshr (fdV a b c d e k) (24 - 8 * ((k % 4 : Nat) : Int))) 255)), ⟨by show (k : Int) + 1 = ((k + 1 : Nat) : Int); omega, fun i hi => ?_, fun y z p => ?_, i4⟩, fun nx => ?_⟩
      · show (upI τ 95 _ _).1 95 _ = _
        by_cases e : i = k
        · subst e; rw [up_same]
        · rw [up_ix (by omega)]; exact i2 i (by omega)
      · show (upI τ 95 _ _).1 y z = _
        rw [upI_ne (by omega)]; exact i3 y z p
      · have st : ∀ v : Int, F_X12_feed_J76 N nx a b c d e k v τ = nx ((k : Int) + 1, upI τ 95 ((t + k : Nat) : Int) (jand (jshr v (24 - 8 * ((k % 4 : Nat) : Int))) 255)) := fun v => by
          unfold F_X12_feed_J76
          rw [t1, ja_eq ⟨by omega, by omega⟩, inb_in (by omega), r4, sh, ja_1 (by omega) (by omega), show (t : Int) + (k : Int) = ((t + k : Nat) : Int) by omega]
        show F_X12_feed_B23 N nx a b c d e k τ = _
        unfold F_X12_feed_B23 fdV
        rw [if_neg (by omega), st, st, st, st, st]
        rcases (by omega : k < 4 ∨ (4 ≤ k ∧ k < 8) ∨ (8 ≤ k ∧ k < 12) ∨ (12 ≤ k ∧ k < 16) ∨ 16 ≤ k) with z | z | z | z | z
        · rw [if_neg (by omega), if_pos z]
        · rw [if_pos (by omega), if_neg (by omega), if_neg (by omega), if_pos z.2]
        · rw [if_pos (by omega), if_pos (by omega), if_neg (by omega), if_neg (by omega), if_neg (by omega), if_pos z.2]
        · rw [if_pos (by omega), if_pos (by omega), if_pos (by omega), if_neg (by omega), if_neg (by omega), if_neg (by omega), if_neg (by omega), if_pos z.2]
        · rw [if_pos (by omega), if_pos (by omega), if_pos (by omega), if_pos (by omega), if_neg (by omega), if_neg (by omega), if_neg (by omega), if_neg (by omega)]) (fun s hI nx => by
      obtain ⟨w, τ⟩ := s
      have i1 : w = ((20 : Nat) : Int) := hI.1
      show F_X12_feed_B23 N nx a b c d e w τ = F_X12_feed_J113 N τ
      unfold F_X12_feed_B23
      rw [i1, if_pos (by omega)])
    rw [h6]
    show ∃ σ', F_X12_feed_J113 N s.2 = _ ∧ _
    have t1 : s.2.1 94 1 = t := (h3 _ _ (by omega)).trans e1
    unfold F_X12_feed_J113
    rw [up_same, t1, ja_eq ⟨by omega, by omega⟩, show (t : Int) + 20 = ((t + 20 : Nat) : Int) by omega]
    refine ⟨_, rfl, fun z => absurd q z, fun _ => ⟨up_same, fun k hk => ?_, fun y z p1 p2 => ?_, h4⟩⟩
    · rw [up_pl (by decide)]; exact h2 k hk
    · rw [upI_ne (by omega), h3 y z p2, upI_ne (by omega)]
  · rw [if_neg (by omega), if_neg q]
    exact ⟨_, rfl, fun _ => rfl, fun z => absurd z q⟩
theorem s_feed (hN : BigN N) (H : INV σ) (a b c d e : Int) : Ask (F_X11_feed N a b c d e σ) (fun σ1 => F_X12_feed N a b c d e σ1) := by
  obtain ⟨bk, D, u, Ds, I⟩ := H
  obtain ⟨i1, i2, i3, i4, i5, i6, i7, i8⟩ := id I
  obtain ⟨t, t1, ⟨t2, t3⟩, t4, t5, t6⟩ := id i8
  obtain ⟨σ1, a1, a2, a3⟩ := x_feed hN t1 t2 a b c d e
  by_cases q : t + 20 ≤ 700
  · obtain ⟨b1, b2, b3, b4⟩ := a3 q
    obtain ⟨σ2, c1, c2, c3⟩ := m_feed (N := N) (σ := σ1) hN t1 ((b3 _ _ (by omega) (by omega)).trans t3) a b c d e
    obtain ⟨d1, d2, d3, d4⟩ := c3 q
    have f : ∀ y z, ¬ (y = 1 ∧ z = 1) → ¬ (y = 2 ∧ (t : Int) ≤ z) → ¬ (y = 94 ∧ (z = 1 ∨ z = 2)) → ¬ (y = 95 ∧ (t : Int) ≤ z) → σ2.1 y z = σ.1 y z := fun y z q1 q2 q3 q4 => by rw [d3 y z q3 q4, b3 y z q1 q2]
    have hbb : bk + 12 ≤ 28 := by rcases i1.1 with h | h <;> omega
    have hb3 := i1.ge
    refine ⟨_, σ1, σ2, a1, c1, bk, D, u, Ds, ?_, by rw [f _ _ (by omega) (by omega) (by omega) (by omega)]; exact i2, i3.mut2 id rfl (i3.b0.cg (fun z _ _ => f _ _ (by omega) (by omega) (by omega) (by omega)) i4) (fun y z p => f y z (by omega) (by omega) (by omega) (by omega)), i4, i5, i6.cg (fun y z q => f y z (by omega) (by omega) (by omega) (by omega)) (f _ _ (by omega) (by omega) (by omega) (by omega)) (fun z hz => f _ _ (by omega) (by omega) (by omega) (by omega)), i7.cg SameT.rf (fun y z p q => f y z (by omega) (by omega) (by omega) (by omega)) (f _ _ (by omega) (by omega) (by omega) (by omega)) (fun z p q => f _ _ (by omega) (by omega) (by omega) (by omega)), t + 20, q, ⟨?_, d1⟩, fun k hk => ?_, ⟨?_, ?_⟩, fun k hk => ?_⟩
    · refine ⟨i1.1, by rw [f _ _ (by omega) (by omega) (by omega) (by omega)]; exact i1.2.1, i1.2.2.1.cg (fun y z p q => f y z (by omega) (by omega) (by omega) (by omega)), i1.2.2.2.1.cg (fun y z p q => f y z (by omega) (by omega) (by omega) (by omega)), i1.2.2.2.2.1.cg (fun j => f _ _ (by omega) (by omega) (by omega) (by omega)) (fun j => by rw [d4, b4]), ?_, ?_⟩
      · rcases i1.2.2.2.2.2.1 with z | z
        · exact Or.inl (by rw [f _ _ (by omega) (by omega) (by omega) (by omega)]; exact z)
        · exact Or.inr ⟨by rw [f _ _ (by omega) (by omega) (by omega) (by omega)]; exact z.1, ⟨z.2.1.cg (fun y w p q => f y w (by omega) (by omega) (by omega) (by omega)), z.2.2.cg (fun y w p => f y w (by omega) (by omega) (by omega) (by omega))⟩⟩
      · rcases i1.2.2.2.2.2.2 with z | z
        · exact Or.inl (by rw [f _ _ (by omega) (by omega) (by omega) (by omega)]; exact z)
        · exact Or.inr ⟨by rw [f _ _ (by omega) (by omega) (by omega) (by omega)]; exact z.1, by rw [f _ _ (by omega) (by omega) (by omega) (by omega)]; exact z.2.1, RunX.cg z.2.2 (fun y w p q => f y w (by omega) (by omega) (by omega) (by omega))⟩
    · rw [d3 _ _ (by omega) (by omega)]; exact b1
    · have r2 : σ2.1 2 (k : Int) = σ1.1 2 k := d3 _ _ (by omega) (by omega)
      rw [r2]
      by_cases z : k < t
      · rw [b3 _ _ (by omega) (by omega), f _ _ (by omega) (by omega) (by omega) (by omega)]; exact t4 k z
      · have e1 := b2 (k - t) (by omega)
        have e2 := d2 (k - t) (by omega)
        rw [show t + (k - t) = k by omega] at e1 e2
        have jj := ji2b_eq (a := jshr (fdV a b c d e (k - t)) (24 - 8 * (((k - t) % 4 : Nat) : Int))) (jshr_R _ _)
        rw [e1, e2, jand_255 (jshr_R _ _), jj.2]
        exact ⟨jj.1, rfl⟩
    · rw [f _ _ (by omega) (by omega) (by omega) (by omega), f _ _ (by omega) (by omega) (by omega) (by omega)]; exact t5.1
    · rw [f _ _ (by omega) (by omega) (by omega) (by omega), f _ _ (by omega) (by omega) (by omega) (by omega)]; exact t5.2
    · rw [f _ _ (by omega) (by omega) (by omega) (by omega)]; exact t6 k hk
  · have e1 := a2 q
    subst e1
    obtain ⟨σ2, c1, c2, c3⟩ := m_feed (N := N) (σ := σ1) hN t1 t3 a b c d e
    have e2 := c2 q
    subst e2
    obtain ⟨M', m'⟩ := i3.up2 i4 0
    exact ⟨_, σ1, _, a1, c1, bk, D, u, Ds, I.same (XSame.ro i1 RO.rf) M' m'⟩
end FEE
