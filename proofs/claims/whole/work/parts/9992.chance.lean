/-! BY CHANCE -/
def nxN (x : Int) : Int := (x * 1103515245 + 12345) % 2147483648
theorem nxN_bd (x : Int) : 0 ≤ nxN x ∧ nxN x < 2147483648 := by unfold nxN; omega
theorem tb_wrap {a : Int} (i : Nat) : tb (a + 4294967296) i = tb a i := by
  unfold tb
  have e : Int32.ofInt (a + 4294967296) = Int32.ofInt a := by
    rw [Int32.ofInt_add, show Int32.ofInt 4294967296 = 0 from rfl, Int32.add_zero]
  rw [e]
theorem jand_mask {a : Int} (h : inR a) : jand a 2147483647 = a % 2147483648 := by
  have key : ∀ n : Nat, n < 4294967296 → ∀ i, i < 32 → ((n : Nat).testBit i && (2147483647 : Nat).testBit i) = (n % 2147483648).testBit i := fun n _ i _ => by
    rw [show (2147483647 : Nat) = 2 ^ 31 - 1 from rfl, show (2147483648 : Nat) = 2 ^ 31 from rfl, Nat.testBit_two_pow_sub_one, Nat.testBit_mod_two_pow, Bool.and_comm]
  have hr := h.1
  have hr2 := h.2
  by_cases h0 : 0 ≤ a
  · obtain ⟨n, rfl⟩ : ∃ n : Nat, a = n := ⟨a.toNat, by omega⟩
    refine tb_ext (jand_R _ _) ⟨by omega, by omega⟩ (fun i hi => ?_)
    rw [tb_and, tb_nat n hi, show (2147483647 : Int) = ((2147483647 : Nat) : Int) from rfl, tb_nat _ hi, key n (by omega) i hi, show (n : Int) % 2147483648 = ((n % 2147483648 : Nat) : Int) by omega, tb_nat _ hi]
  · obtain ⟨n, hn⟩ : ∃ n : Nat, a + 4294967296 = n := ⟨(a + 4294967296).toNat, by omega⟩
    refine tb_ext (jand_R _ _) ⟨by omega, by omega⟩ (fun i hi => ?_)
    rw [tb_and, ← tb_wrap (a := a) i, hn, tb_nat n hi, show (2147483647 : Int) = ((2147483647 : Nat) : Int) from rfl, tb_nat _ hi, key n (by omega) i hi, show a % 2147483648 = ((n % 2147483648 : Nat) : Int) by omega, tb_nat _ hi]
theorem nx_int (x : Int) : jand (ja (jm x 1103515245) 12345) 2147483647 = nxN x := by
  rw [jand_mask (ja_R _ _)]
  unfold nxN ja jm
  rw [Int32.ofInt_toInt, ← Int32.ofInt_mul, ← Int32.ofInt_add, Int32.toInt_ofInt]
  have e : ∀ y : Int, (y.bmod (2 ^ 32)) % 2147483648 = y % 2147483648 := fun y => by
    rw [Int.bmod_def]
    split <;> omega
  exact e _
theorem jland_mask {n : Nat} (h : n < 9223372036854775808) : jland (n : Int) 2147483647 = ((n % 2147483648 : Nat) : Int) := by
  have e1 : (Int64.ofInt (n : Int) &&& Int64.ofInt 2147483647) = Int64.ofInt ((n % 2147483648 : Nat) : Int) := by
    refine Int64.toBitVec_inj.mp ?_
    rw [Int64.toBitVec_and]
    show (BitVec.ofInt 64 (n : Int) &&& BitVec.ofInt 64 ((2147483647 : Nat) : Int)) = BitVec.ofInt 64 ((n % 2147483648 : Nat) : Int)
    rw [BitVec.ofInt_natCast, BitVec.ofInt_natCast, BitVec.ofInt_natCast]
    refine BitVec.eq_of_toNat_eq ?_
    rw [BitVec.toNat_and, BitVec.toNat_ofNat, BitVec.toNat_ofNat, BitVec.toNat_ofNat, Nat.mod_eq_of_lt (show n < 2 ^ 64 by omega), Nat.mod_eq_of_lt (show 2147483647 < 2 ^ 64 by omega), Nat.mod_eq_of_lt (show n % 2147483648 < 2 ^ 64 by omega), show (2147483647 : Nat) = 2 ^ 31 - 1 from rfl, Nat.and_two_pow_sub_one_eq_mod]
  unfold jland
  rw [e1, t_ofL ⟨by omega, by omega⟩]
theorem nx_long {x : Int} (h0 : 0 ≤ x) (h1 : x < 2147483648) : jland (jla (jlm x 1103515245) 12345) 2147483647 = nxN x := by
  rw [jlm_eq ⟨by omega, by omega⟩, jla_eq ⟨by omega, by omega⟩]
  obtain ⟨n, hn⟩ : ∃ n : Nat, x * 1103515245 + 12345 = n := ⟨(x * 1103515245 + 12345).toNat, by omega⟩
  rw [hn, jland_mask (by omega)]
  unfold nxN
  rw [hn]; omega
theorem jshr16 {x : Int} (h0 : 0 ≤ x) (h1 : x < 2147483648) : jshr x 16 = x / 65536 := by
  obtain ⟨n, rfl⟩ : ∃ n : Nat, x = n := ⟨x.toNat, by omega⟩
  have hb : ∀ j, 31 ≤ j → n.testBit j = false := fun j hj => Nat.testBit_lt_two_pow (Nat.lt_of_lt_of_le (show n < 2 ^ 31 by omega) (Nat.pow_le_pow_right (by decide) hj))
  refine tb_ext (jshr_R _ _) ⟨by omega, by omega⟩ (fun i hi => ?_)
  rw [show (16 : Int) = ((16 : Nat) : Int) from rfl, tb_shr (by decide) hi, show ((n : Int) / (65536 : Int)) = Int.ofNat (n >>> 16) by rw [Nat.shiftRight_eq_div_pow]; show ((n : Int) / (65536 : Int)) = ((n / 2 ^ 16 : Nat) : Int); omega, show Int.ofNat (n >>> 16) = ((n >>> 16 : Nat) : Int) from rfl, tb_nat _ hi, Nat.testBit_shiftRight]
  by_cases q : 16 + i < 32
  · rw [if_pos q, tb_nat _ q]
  · rw [if_neg q, tb_nat _ (by decide), hb 31 (by omega), hb (16 + i) (by omega)]
theorem jlr_eq {a b : Int} (ha : inL a) (hb : inL b) (h0 : 0 ≤ a) (h1 : 0 < b) : jlr a b = a % b := by
  have hd := jld_eq ha hb h0 h1
  unfold jld at hd
  have e0 : Int64.ofInt a / Int64.ofInt b = Int64.ofInt (a / b) := by rw [← hd, Int64.ofInt_toInt]
  have hm := Int.emod_add_mul_ediv a b
  have hl := Int.emod_lt_of_pos a h1
  have hn := Int.emod_nonneg a (by omega : b ≠ 0)
  unfold jlr
  rw [e0, ← Int64.ofInt_mul, ← Int64.ofInt_sub, show a - a / b * b = a % b by rw [Int.mul_comm]; omega]
  exact t_ofL ⟨by have := hb.1; omega, by have := hb.2; omega⟩
def drw (x m : Int) : Int := x / 65536 % m
theorem drw_bd {x m : Int} (h : 0 < m) : 0 ≤ drw x m ∧ drw x m < m := ⟨Int.emod_nonneg _ (by omega), Int.emod_lt_of_pos _ h⟩
section CHA
variable {N : Nat} {σ : Sto} {b : Nat} {D E : Dk}
theorem k_drawn {x m : Int} (x0 : 0 ≤ x) (x1 : x < 2147483648) (m0 : 1 ≤ m) (m1 : m ≤ 1000) : F_X11_drawn N x m σ = some (drw x m) := by
  unfold F_X11_drawn drw
  rw [if_pos m0, grd_in (by omega), jshr16 x0 x1, jrem_eq ⟨by omega, by omega⟩ ⟨by omega, by omega⟩ (by omega) (by omega)]
theorem m_draw {x m : Int} (hx : σ.2 94 47 = x) (x0 : 0 ≤ x) (x1 : x < 2147483648) (m0 : 1 ≤ m) (m1 : m ≤ 1000) : F_X12_draw N m σ = some (drw (nxN x) m, upF σ 94 47 (nxN x)) := by
  have nb := nxN_bd x
  have mb := drw_bd (x := nxN x) (m := m) (by omega)
  unfold F_X12_draw
  rw [grd_in (by omega), hx, nx_long x0 x1, upF_same, jld_eq ⟨by omega, by omega⟩ ⟨by decide, by decide⟩ nb.1 (by decide), jlr_eq ⟨by omega, by omega⟩ ⟨by omega, by omega⟩ (by omega) (by omega)]
  show some (jl2i (drw (nxN x) m), _) = _
  rw [jl2i_eq ⟨by omega, by omega⟩]
noncomputable def chS (D : Dk) (x : Int) : Nat → Int × Dk × Int
  | 0 => (x, D, 0)
  | k + 1 =>
    @ite (Int × Dk × Int) (lkD D (drw (nxN (chS D x k).1) (dp D)) (drw (nxN (nxN (chS D x k).1)) (dp D)) = true ∧ dc (chS D x k).2.1 < 30 ∧ canE (chS D x k).2.1 (drw (nxN (chS D x k).1) (dp D)) (drw (nxN (nxN (chS D x k).1)) (dp D)) (drw (nxN (nxN (nxN (chS D x k).1))) 1000 + 1)) (Classical.propDecidable _)
      (nxN (nxN (nxN (chS D x k).1)), addC (chS D x k).2.1 (drw (nxN (chS D x k).1) (dp D)) (drw (nxN (nxN (chS D x k).1)) (dp D)) (drw (nxN (nxN (nxN (chS D x k).1))) 1000 + 1), (chS D x k).2.2 + (drw (nxN (nxN (nxN (chS D x k).1))) 1000 + 1))
      (nxN (nxN (nxN (chS D x k).1)), (chS D x k).2.1, (chS D x k).2.2)
theorem chS_ok (V : Val D) (K : GdD D) (hp : 1 ≤ dp D) {x : Int} (x0 : 0 ≤ x) (x1 : x < 2147483648) : ∀ k : Nat, k ≤ 60 → (0 ≤ (chS D x k).1 ∧ (chS D x k).1 < 2147483648) ∧ Sm D (chS D x k).2.1 ∧ Val (chS D x k).2.1 ∧ Gd (chS D x k).2.1 (gD D) (cD D) (D.2 5) ∧ dc D ≤ dc (chS D x k).2.1 ∧ 0 ≤ (chS D x k).2.2 ∧ (chS D x k).2.2 ≤ 1000 * k := by
  intro k
  induction k with
  | zero => intro _; exact ⟨⟨x0, x1⟩, Sm.rf, V, K, Nat.le_refl _, Int.le_refl _, Int.le_refl _⟩
  | succ k ih =>
    intro hk
    obtain ⟨i1, i2, i3, i4, i5, i6, i7⟩ := ih (by omega)
    have d1 := drw_bd (x := nxN (chS D x k).1) (m := (dp D : Int)) (by omega)
    have d2 := drw_bd (x := nxN (nxN (chS D x k).1)) (m := (dp D : Int)) (by omega)
    have d3 := drw_bd (x := nxN (nxN (nxN (chS D x k).1))) (m := 1000) (by omega)
    have nb := nxN_bd (nxN (nxN (chS D x k).1))
    show (0 ≤ (@ite (Int × Dk × Int) _ (Classical.propDecidable _) _ _).1 ∧ _) ∧ _
    by_cases q : lkD D (drw (nxN (chS D x k).1) (dp D)) (drw (nxN (nxN (chS D x k).1)) (dp D)) = true ∧ dc (chS D x k).2.1 < 30 ∧ canE (chS D x k).2.1 (drw (nxN (chS D x k).1) (dp D)) (drw (nxN (nxN (chS D x k).1)) (dp D)) (drw (nxN (nxN (nxN (chS D x k).1))) 1000 + 1)
    · have e : chS D x (k + 1) = (nxN (nxN (nxN (chS D x k).1)), addC (chS D x k).2.1 (drw (nxN (chS D x k).1) (dp D)) (drw (nxN (nxN (chS D x k).1)) (dp D)) (drw (nxN (nxN (nxN (chS D x k).1))) 1000 + 1), (chS D x k).2.2 + (drw (nxN (nxN (nxN (chS D x k).1))) 1000 + 1)) := if_pos q
      have pe : dp (chS D x k).2.1 = dp D := i2.1.2.1
      have cc := q.2.2
      unfold canE at cc
      rw [i2.g.1, i2.g.2.2] at cc
      show (0 ≤ (chS D x (k + 1)).1 ∧ (chS D x (k + 1)).1 < 2147483648) ∧ Sm D (chS D x (k + 1)).2.1 ∧ Val (chS D x (k + 1)).2.1 ∧ Gd (chS D x (k + 1)).2.1 (gD D) (cD D) (D.2 5) ∧ dc D ≤ dc (chS D x (k + 1)).2.1 ∧ 0 ≤ (chS D x (k + 1)).2.2 ∧ (chS D x (k + 1)).2.2 ≤ 1000 * ((k + 1 : Nat) : Int)
      rw [e]
      refine ⟨nb, i2.tr (addC_sm _ _ _ _), addC_val i3 q.2.1 ⟨d1.1, by rw [pe]; exact d1.2⟩ ⟨d2.1, by rw [pe]; exact d2.2⟩ (by omega) (by omega), gd_add i4 (by rw [i2.sim.lnk']; exact q.1) cc.1 cc.2.1 cc.2.2, ?_, ?_, ?_⟩
      · show dc D ≤ dc (chS D x k).2.1 + 1; omega
      · show 0 ≤ (chS D x k).2.2 + (drw _ 1000 + 1); omega
      · show (chS D x k).2.2 + (drw _ 1000 + 1) ≤ _; omega
    · have e : chS D x (k + 1) = (nxN (nxN (nxN (chS D x k).1)), (chS D x k).2.1, (chS D x k).2.2) := if_neg q
      show (0 ≤ (chS D x (k + 1)).1 ∧ (chS D x (k + 1)).1 < 2147483648) ∧ Sm D (chS D x (k + 1)).2.1 ∧ Val (chS D x (k + 1)).2.1 ∧ Gd (chS D x (k + 1)).2.1 (gD D) (cD D) (D.2 5) ∧ dc D ≤ dc (chS D x (k + 1)).2.1 ∧ 0 ≤ (chS D x (k + 1)).2.2 ∧ (chS D x (k + 1)).2.2 ≤ 1000 * ((k + 1 : Nat) : Int)
      rw [e]
      exact ⟨nb, i2, i3, i4, i5, i6, by show (chS D x k).2.2 ≤ _; omega⟩
def sdC (D : Dk) (s : Int) : Int := if s = -1 then D.2 0 2 else s
noncomputable def rChance (D : Dk) (s n w : Int) : Int := if -1 ≤ s ∧ (1 ≤ n ∧ n ≤ 60) ∧ (0 ≤ w ∧ w ≤ 2) ∧ 1 ≤ dp D then (if w = 0 then (dc (chS D (sdC D s) n.toNat).2.1 : Int) - dc D else if w = 1 then (chS D (sdC D s) n.toNat).2.2 else tE (chS D (sdC D s) n.toNat).2.1 (gD D) (cD D) (D.2 5) G0) else -1
abbrev RCh (D : Dk) (s n : Int) : Prop := REn (chS D (sdC D s) n.toNat).2.1 (gD D) (cD D) (D.2 5) G0 (mE (chS D (sdC D s) n.toNat).2.1 (gD D) (cD D) (D.2 5) G0)
theorem k_copyLed {l l2 : Nat} (V : Val E) (h : l2 + 3 < l ∨ l + 3 < l2) (L : LedR σ l2 E) : ∃ σ', F_X5_copy N l l2 σ = some σ' ∧ LedR σ' l E ∧ (∀ a z, ¬ (l ≤ a ∧ a ≤ l + 3) → σ'.1 a z = σ.1 a z) ∧ σ'.2 = σ.2 := by
  have vz := V.sz
  have cp : ∀ (τ : Sto) (ks kd a : Nat) (j n : Int), (cpI τ ks 0 kd 0 n).1 a j = if a = kd ∧ 0 ≤ j ∧ j < 0 + n then τ.1 ks (0 + (j - 0)) else τ.1 a j := fun _ _ _ _ _ _ => rfl
  unfold F_X5_copy
  rw [grd_in (by decide), grd_in (by decide), grd_in (by decide)]
  refine ⟨_, rfl, ⟨?_, fun k k0 k1 => ⟨?_, ?_, ?_⟩⟩, fun a z q => ?_, rfl⟩
  · rw [up_same]
    rw [cp, if_neg (by omega), cp, if_neg (by omega), cp, if_neg (by omega)]; exact L.1
  · rw [up_pl (by omega), cp, if_neg (by omega), cp, if_neg (by omega), cp, if_pos ⟨rfl, by omega, by omega⟩, show 0 + (k - 0) = k by omega]; exact (L.2 k k0 k1).1
  · rw [up_pl (by omega), cp, if_neg (by omega), cp, if_pos ⟨rfl, by omega, by omega⟩, cp, if_neg (by omega), show 0 + (k - 0) = k by omega]; exact (L.2 k k0 k1).2.1
  · rw [up_pl (by omega), cp, if_pos ⟨rfl, by omega, by omega⟩, cp, if_neg (by omega), cp, if_neg (by omega), show 0 + (k - 0) = k by omega]; exact (L.2 k k0 k1).2.2
  · rw [upI_ne (by omega), cp, if_neg (by omega), cp, if_neg (by omega), cp, if_neg (by omega)]
end CHA
