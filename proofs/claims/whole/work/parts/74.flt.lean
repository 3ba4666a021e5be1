/-! FLOATS: shares are numbers, never NaN; the class's bitsOf is their bits -/
theorem n32_nn {r : UInt32} (h : r.toNat % 2 ^ 31 ≤ 2139095040) : vf_n32 r := by
  unfold vf_n32
  rw [UInt32.le_iff_toNat_le, UInt32.toNat_and]
  show r.toNat &&& 2147483647 ≤ 2139095040
  rw [show (2147483647 : Nat) = 2 ^ 31 - 1 from rfl, Nat.and_two_pow_sub_one_eq_mod]
  exact h
theorem n32_of {r : UInt32} {K : Nat} (h : r.toNat % 2 ^ 31 < K * 2 ^ 23) (hK : K ≤ 255) : vf_n32 r := n32_nn (by omega)
theorem n64_nn {r : UInt64} (h : Jvm.FP.Core.dIsNaN r = false) : vf_n64 r := by
  have h2 : ¬ 9218868437227405312 < r.toNat % 2 ^ 63 := fun z => by
    rw [(Jvm.FP.Core.isNaN_bits r).mpr z] at h; cases h
  unfold vf_n64
  rw [UInt64.le_iff_toNat_le, UInt64.toNat_and]
  show r.toNat &&& 9223372036854775807 ≤ 9218868437227405312
  rw [show (9223372036854775807 : Nat) = 2 ^ 63 - 1 from rfl, Nat.and_two_pow_sub_one_eq_mod]
  omega
/-- a percent as a part -/
def ffr (x : Int) : UInt32 := FP.fdiv (ji2f x) 1120403456
theorem ffr_all : ∀ x : Nat, x < 101 → (ffr x).toNat < 128 * 2 ^ 23 ∧ (120 * 2 ^ 23 ≤ (ffr x).toNat ∨ (ffr x).toNat = 0) := by decide +kernel
theorem ffr_bd {x : Int} (h0 : 0 ≤ x) (h1 : x ≤ 100) : (ffr x).toNat < 128 * 2 ^ 23 ∧ (120 * 2 ^ 23 ≤ (ffr x).toNat ∨ (ffr x).toNat = 0) := by
  obtain ⟨n, rfl⟩ := Int.eq_ofNat_of_zero_le h0
  exact ffr_all n (by omega)
def fsum (f : Int → UInt32) (a : Int) : Nat → UInt32
  | 0 => FP.fconst0
  | n + 1 => FP.fadd (fsum f a n) (f (a + n))
/-- SHARES of a in a .. a + n, by the percents P -/
def shT (P : Int → Int → Int) (a : Int) : Nat → Int → UInt32
  | 0 => fun j => if j = a then FP.fconst1 else FP.fconst0
  | n + 1 => fun j => if j = a + ((n : Int) + 1) then fsum (fun c => FP.fmul (shT P a n c) (ffr (P c j))) a (n + 1) else shT P a n j
def shr (P : Int → Int → Int) (a b : Int) : UInt32 := if b < a then FP.fconst0 else shT P a (b - a).toNat b
theorem shT_low {P : Int → Int → Int} {a : Int} : ∀ {n k : Nat} {j : Int}, k ≤ n → j ≤ a + k → shT P a n j = shT P a k j := by
  intro n
  induction n with
  | zero => intro k j hk _; have e : k = 0 := by omega
            subst e; rfl
  | succ n ih =>
    intro k j hk hj
    by_cases e : k = n + 1
    · subst e; rfl
    · show (if j = a + ((n : Int) + 1) then _ else shT P a n j) = _
      rw [if_neg (by omega)]
      exact ih (by omega) hj
theorem shT_shr {P : Int → Int → Int} {a j : Int} {n : Nat} (h0 : a ≤ j) (h1 : j ≤ a + n) : shT P a n j = shr P a j := by
  unfold shr
  rw [if_neg (by omega)]
  exact shT_low (by omega) (by omega)
/-- what SHARE of a in b is, for a less than b -/
theorem shr_step {P : Int → Int → Int} {a b : Int} (h : a < b) : shr P a b = fsum (fun c => FP.fmul (shr P a c) (ffr (P c b))) a (b - a).toNat := by
  obtain ⟨n, hn⟩ : ∃ n : Nat, (b - a).toNat = n + 1 := ⟨(b - a).toNat - 1, by omega⟩
  have e : shr P a b = shT P a (n + 1) b := by
    unfold shr; rw [if_neg (by omega), hn]
  rw [e, hn]
  show (if b = a + ((n : Int) + 1) then _ else _) = _
  rw [if_pos (by omega)]
  have key : ∀ m : Nat, m ≤ n + 1 → fsum (fun c => FP.fmul (shT P a n c) (ffr (P c b))) a m = fsum (fun c => FP.fmul (shr P a c) (ffr (P c b))) a m := by
    intro m
    induction m with
    | zero => intro _; rfl
    | succ m ih =>
      intro hm
      show FP.fadd _ (FP.fmul (shT P a n (a + m)) _) = FP.fadd _ (FP.fmul (shr P a (a + m)) _)
      rw [ih (by omega), shT_shr (by omega) (by omega)]
  exact key (n + 1) (Nat.le_refl _)
theorem shr_self {P : Int → Int → Int} {a : Int} : shr P a a = FP.fconst1 := by
  unfold shr
  rw [if_neg (by omega), Int.sub_self]
  show (if a = a then _ else _) = _
  rw [if_pos rfl]
theorem fadd_m {a b : UInt32} {K : Nat} (ha : a.toNat % 2 ^ 31 < K * 2 ^ 23) (hb : b.toNat % 2 ^ 31 < K * 2 ^ 23) (hK : K ≤ 255) : (FP.fadd a b).toNat % 2 ^ 31 < (K + 2) * 2 ^ 23 := Jvm.FP.Core.fadd_mag ha hb hK
theorem fmul_m {a b : UInt32} {K : Nat} (ha : a.toNat % 2 ^ 31 < K * 2 ^ 23) (hb : b.toNat < 128 * 2 ^ 23) (h1 : 1 ≤ K) (hK : K ≤ 255) : (FP.fmul a b).toNat % 2 ^ 31 < (K + 2) * 2 ^ 23 := by
  have e : K + 128 - 129 + 3 = K + 2 := by omega
  have r := Jvm.FP.Core.fmul_mag (Kb := 128) ha (Nat.lt_of_le_of_lt (Nat.mod_le _ _) hb) hK (by decide)
  rw [e] at r
  exact r
theorem lt_K {x K K' : Nat} (h : x < K * 2 ^ 23) (hk : K ≤ K') : x < K' * 2 ^ 23 := Nat.lt_of_lt_of_le h (Nat.mul_le_mul_right _ hk)
theorem fsum_mag {f : Int → UInt32} {a : Int} {M : Nat} : ∀ {n : Nat}, 1 ≤ M → M + 2 * n ≤ 255 → (∀ i : Nat, i < n → (f (a + i)).toNat % 2 ^ 31 < M * 2 ^ 23) → (fsum f a n).toNat % 2 ^ 31 < (M + 2 * n) * 2 ^ 23 := by
  intro n
  induction n with
  | zero => intro h1 _ _; show (0 : Nat) % 2 ^ 31 < _; omega
  | succ n ih =>
    intro h1 h2 hf
    have k1 : M + 2 * n ≤ 255 := by omega
    have k2 : M ≤ M + 2 * n := by omega
    have k3 : M + 2 * (n + 1) = M + 2 * n + 2 := by omega
    rw [k3]
    exact fadd_m (ih h1 k1 (fun i hi => hf i (by omega))) (lt_K (hf n (by omega)) k2) k1
def shK (n : Nat) : Nat := 128 + n * n + 3 * n
theorem shK_bd : ∀ n, n < 8 → 128 ≤ shK n ∧ shK n ≤ 198 ∧ shK n + 2 + 2 * (n + 1) = shK (n + 1) := by decide
theorem shK_mono : ∀ n, n < 8 → ∀ k, k < n + 1 → shK k ≤ shK n := by decide
theorem shr_mag {P : Int → Int → Int} (hP : ∀ c j, 0 ≤ P c j ∧ P c j ≤ 100) {a : Int} : ∀ n : Nat, n ≤ 7 → ∀ j : Int, a ≤ j → j ≤ a + n → (shr P a j).toNat % 2 ^ 31 < shK n * 2 ^ 23 := by
  intro n
  induction n with
  | zero =>
    intro _ j h0 h1
    have e : j = a := by omega
    subst e
    rw [shr_self]; decide
  | succ n ih =>
    intro hn j h0 h1
    have b1 := shK_bd n (by omega)
    have b2 := shK_bd (n + 1) (by omega)
    by_cases e : j ≤ a + n
    · have := ih (by omega) j h0 e
      have hm := shK_mono (n + 1) (by omega) n (by omega)
      exact Nat.lt_of_lt_of_le this (Nat.mul_le_mul_right _ hm)
    · have e2 : j = a + ((n + 1 : Nat) : Int) := by omega
      have k1 : shK n + 2 + 2 * (n + 1) ≤ 255 := by omega
      have k2 : 1 ≤ shK n + 2 := by omega
      have k3 : 1 ≤ shK n := by omega
      have k4 : shK n ≤ 255 := by omega
      have k5 : n ≤ 7 := by omega
      rw [shr_step (by omega), show (j - a).toNat = n + 1 by omega, ← b1.2.2]
      exact fsum_mag (f := fun c => FP.fmul (shr P a c) (ffr (P c j))) (a := a) (M := shK n + 2) (n := n + 1) k2 k1 (fun i hi => fmul_m (ih k5 (a + i) (by omega) (by omega)) (ffr_bd (hP (a + i) j).1 (hP (a + i) j).2).1 k3 k4)
/-! the three numbers of a step are no NaN -/
theorem fs_ffr {x : Int} (h0 : 0 ≤ x) (h1 : x ≤ 100) : vf_n32 (FP.fdiv (ji2f x) 1120403456) := n32_of (K := 128) (Nat.lt_of_le_of_lt (Nat.mod_le _ _) (ffr_bd h0 h1).1) (by decide)
theorem fs_mulm {P : Int → Int → Int} (hP : ∀ c j, 0 ≤ P c j ∧ P c j ≤ 100) {a c : Int} {x : Int} (h0 : a ≤ c) (h1 : c ≤ a + 6) (x0 : 0 ≤ x) (x1 : x ≤ 100) : (FP.fmul (shr P a c) (ffr x)).toNat % 2 ^ 31 < 184 * 2 ^ 23 :=
  fmul_m (K := 182) (shr_mag hP (a := a) 6 (by decide) c h0 h1) (ffr_bd x0 x1).1 (by decide) (by decide)
theorem fs_mul {P : Int → Int → Int} (hP : ∀ c j, 0 ≤ P c j ∧ P c j ≤ 100) {a c : Int} {x : Int} (h0 : a ≤ c) (h1 : c ≤ a + 6) (x0 : 0 ≤ x) (x1 : x ≤ 100) : vf_n32 (FP.fmul (shr P a c) (FP.fdiv (ji2f x) 1120403456)) := n32_of (fs_mulm hP h0 h1 x0 x1) (by decide)
theorem fs_add {P : Int → Int → Int} (hP : ∀ c j, 0 ≤ P c j ∧ P c j ≤ 100) {a b : Int} {i : Nat} (hi : i ≤ 6) : vf_n32 (FP.fadd (fsum (fun c => FP.fmul (shr P a c) (ffr (P c b))) a i) (FP.fmul (shr P a (a + i)) (FP.fdiv (ji2f (P (a + i) b)) 1120403456))) := by
  have k1 : 184 + 2 * i ≤ 255 := by omega
  have k2 : 184 + 2 * i ≤ 196 := by omega
  refine n32_of (K := 198) (fadd_m (K := 196) (lt_K (fsum_mag (f := fun c => FP.fmul (shr P a c) (ffr (P c b))) (a := a) (M := 184) (n := i) (by decide) k1 (fun k hk => fs_mulm hP (by omega) (by omega) (hP _ _).1 (hP _ _).2)) k2) (lt_K (K := 184) ?_ (by decide)) (by decide)) (by decide)
  exact fs_mulm hP (by omega) (by omega) (hP _ _).1 (hP _ _).2
theorem fs_100 {P : Int → Int → Int} (hP : ∀ c j, 0 ≤ P c j ∧ P c j ≤ 100) {a b : Int} (h0 : a ≤ b) (h1 : b ≤ a + 7) : vf_n32 (FP.fmul (shr P a b) 1120403456) :=
  n32_of (Jvm.FP.Core.fmul_mag (Ka := 198) (Kb := 134) (a := shr P a b) (b := 1120403456) (shr_mag hP (a := a) 7 (by decide) b h0 h1) (by decide) (by decide) (by decide)) (by decide)
/-! signs and least sizes -/
theorem fin_pos {a : UInt32} (h : a.toNat < 2139095040) : ∃ c q, Jvm.FP.Core.val32 a = .fin false c q ∧ Jvm.FP.Core.fits Jvm.FP.Core.b32 (.fin false c q) ∧ Jvm.FP.Core.zmag Jvm.FP.Core.b32 (.fin false c q) = Jvm.FP.Core.unitsOf Jvm.FP.Core.b32 a.toNat := by
  have hm : Jvm.FP.Core.mag Jvm.FP.Core.b32 a.toNat = a.toNat := by rw [Jvm.FP.Core.mag_toNat32]; omega
  obtain ⟨s, c, q, x1, x2, x3⟩ := Jvm.FP.Core.fin_of_mag Jvm.FP.Core.good_b32 (n := a.toNat) (by rw [hm, Jvm.FP.Core.infBits_b32]; exact h)
  have hs := Jvm.FP.Core.sign_bits32 (a := a) (s := s) (Or.inl ⟨c, q, x1⟩)
  cases s with
  | true => have := hs.mp rfl; omega
  | false => exact ⟨c, q, x1, x2, by rw [x3, hm]⟩
theorem sgn_pos {a : UInt32} {A B : Nat} {e : Int} (h : Jvm.FP.Core.val32 a = Jvm.FP.Core.roundRatio Jvm.FP.Core.b32 false A B e) : a.toNat < 2 ^ 31 := by
  have h1 : Jvm.FP.Core.val32 a ≠ .nan := by rw [h]; exact Jvm.FP.Core.roundRatio_ne_nan _ _ _ _ _
  have h2 := Jvm.FP.Core.sgn_bits32 h1
  rw [h, Jvm.FP.Core.sgn_roundRatio] at h2
  have := of_decide_eq_false h2.symm
  omega
theorem fmul_low {a b : UInt32} {La Lb : Nat} (ha : a.toNat < 2139095040) (hb : b.toNat < 2139095040) (h1 : La * 2 ^ 23 ≤ a.toNat) (h2 : Lb * 2 ^ 23 ≤ b.toNat) (l1 : 1 ≤ La) (l2 : 1 ≤ Lb) (hL : 128 ≤ La + Lb) (hU : La + Lb ≤ 382) : (FP.fmul a b).toNat < 2 ^ 31 ∧ (La + Lb - 127) * 2 ^ 23 ≤ (FP.fmul a b).toNat := by
  have ku : (La + Lb - 127) * 2 ^ 23 ≤ 2139095040 := Nat.le_trans (Nat.mul_le_mul_right _ (show La + Lb - 127 ≤ 255 by clear h1 h2; omega)) (by decide)
  have kl : 1 ≤ La + Lb - 127 := by omega
  have ke : 23 + (La + Lb - 127 - 1) + 149 = 23 + (La - 1) + (23 + (Lb - 1)) := by omega
  obtain ⟨c, q, x1, x2, x3⟩ := fin_pos ha
  obtain ⟨d, r, y1, y2, y3⟩ := fin_pos hb
  obtain ⟨p1, p2, p3⟩ := Jvm.FP.Core.product_units x2 y2
  have hd : Jvm.FP.Core.val32 (FP.fmul a b) = Jvm.FP.Core.roundRatio Jvm.FP.Core.b32 false (c * d) 1 (q + r) := by
    rw [show FP.fmul a b = Jvm.FP.Core.fmul a b from rfl, Jvm.FP.Core.val32_fmul, x1, y1, p1]; rfl
  have hs := sgn_pos hd
  have hq := Jvm.FP.Core.qmin_b32
  have hm : Jvm.FP.Core.mag Jvm.FP.Core.b32 (FP.fmul a b).toNat = (FP.fmul a b).toNat := by rw [Jvm.FP.Core.mag_toNat32]; omega
  refine ⟨hs, ?_⟩
  rw [← hm, ← Jvm.FP.Core.tails_b32]
  refine Jvm.FP.Core.mag_ge Jvm.FP.Core.good_b32 hd (by decide) (e0 := 2 * Jvm.FP.Core.b32.qmin) (by omega) p2 ?_ ?_
  · rw [Jvm.FP.Core.tails_b32, Jvm.FP.Core.infBits_b32]; exact ku
  · rw [p3, x3, y3, Jvm.FP.Core.unitsOf_start kl, Nat.mul_one, hq]
    have u1 : Jvm.FP.Core.b32.tails * 2 ^ (La - 1) ≤ Jvm.FP.Core.unitsOf Jvm.FP.Core.b32 a.toNat := by
      rw [← Jvm.FP.Core.unitsOf_start l1]
      exact Jvm.FP.Core.unitsOf_le_iff.mpr (by rw [Jvm.FP.Core.tails_b32]; exact h1)
    have u2 : Jvm.FP.Core.b32.tails * 2 ^ (Lb - 1) ≤ Jvm.FP.Core.unitsOf Jvm.FP.Core.b32 b.toNat := by
      rw [← Jvm.FP.Core.unitsOf_start l2]
      exact Jvm.FP.Core.unitsOf_le_iff.mpr (by rw [Jvm.FP.Core.tails_b32]; exact h2)
    refine Nat.le_trans (Nat.le_of_eq ?_) (Nat.mul_le_mul u1 u2)
    rw [Jvm.FP.Core.tails_b32, show ((-149 : Int) - 2 * -149).toNat = 149 from rfl]
    rw [← Nat.pow_add, ← Nat.pow_add, ← Nat.pow_add, ← Nat.pow_add, ← Nat.pow_add]
    exact congrArg (fun x => 2 ^ x) ke
theorem fadd_low {a b : UInt32} (ha : a.toNat < 2139095040) (hb : b.toNat < 2139095040) : (FP.fadd a b).toNat < 2 ^ 31 ∧ a.toNat ≤ (FP.fadd a b).toNat ∧ b.toNat ≤ (FP.fadd a b).toNat := by
  obtain ⟨c, q, x1, x2, x3⟩ := fin_pos ha
  obtain ⟨d, r, y1, y2, y3⟩ := fin_pos hb
  obtain ⟨sg, n, e, p1, p2, p3⟩ := Jvm.FP.Core.sum_units x2 y2
  have hv : 0 ≤ Jvm.FP.Core.sumUnits false c q false d r (min q r) := by
    show (0 : Int) ≤ ((Jvm.FP.Core.inUnits c q _ : Nat) : Int) + ((Jvm.FP.Core.inUnits d r _ : Nat) : Int)
    omega
  have hsg : sg = false := by
    have p0 := p1
    unfold Jvm.FP.Core.exactSum at p0
    injection p0 with e1 e2 e3
    rw [← e1]
    unfold Jvm.FP.Core.sumSign
    split
    · rfl
    · exact decide_eq_false (by omega)
  subst hsg
  have hd : Jvm.FP.Core.val32 (FP.fadd a b) = Jvm.FP.Core.roundRatio Jvm.FP.Core.b32 false n 1 e := by
    rw [show FP.fadd a b = Jvm.FP.Core.fadd a b from rfl, Jvm.FP.Core.val32_fadd, x1, y1, p1]; rfl
  have hs := sgn_pos hd
  have hm : Jvm.FP.Core.mag Jvm.FP.Core.b32 (FP.fadd a b).toNat = (FP.fadd a b).toNat := by rw [Jvm.FP.Core.mag_toNat32]; omega
  have p4 : Jvm.FP.Core.inUnits n e Jvm.FP.Core.b32.qmin = Jvm.FP.Core.unitsOf Jvm.FP.Core.b32 a.toNat + Jvm.FP.Core.unitsOf Jvm.FP.Core.b32 b.toNat := by
    have p5 : ((Jvm.FP.Core.inUnits n e Jvm.FP.Core.b32.qmin : Nat) : Int) = ((Jvm.FP.Core.zmag Jvm.FP.Core.b32 (.fin false c q) : Nat) : Int) + ((Jvm.FP.Core.zmag Jvm.FP.Core.b32 (.fin false d r) : Nat) : Int) := p3
    rw [x3, y3] at p5
    omega
  have key : ∀ m : Nat, m < 2139095040 → Jvm.FP.Core.unitsOf Jvm.FP.Core.b32 m ≤ Jvm.FP.Core.inUnits n e Jvm.FP.Core.b32.qmin → m ≤ (FP.fadd a b).toNat := by
    intro m hm1 hm2
    rw [← hm]
    refine Jvm.FP.Core.mag_ge Jvm.FP.Core.good_b32 hd (by decide) (e0 := Jvm.FP.Core.b32.qmin) (Int.le_refl _) p2 (by rw [Jvm.FP.Core.infBits_b32]; omega) ?_
    rw [Int.sub_self, show (0 : Int).toNat = 0 from rfl, Nat.pow_zero, Nat.mul_one, Nat.mul_one]
    exact hm2
  exact ⟨hs, key _ ha (by omega), key _ hb (by omega)⟩
/-- nothing, or no less than L * 2^23; no sign -/
def nrm (L : Nat) (x : UInt32) : Prop := x.toNat < 2 ^ 31 ∧ (x.toNat = 0 ∨ L * 2 ^ 23 ≤ x.toNat)
theorem fmul_zl {a b : UInt32} (ha : a.toNat < 2139095040) (hb : b.toNat < 2139095040) (h : a.toNat = 0 ∨ b.toNat = 0) : (FP.fmul a b).toNat = 0 := by
  obtain ⟨c, q, x1, x2, x3⟩ := fin_pos ha
  obtain ⟨d, r, y1, y2, y3⟩ := fin_pos hb
  obtain ⟨p1, p2, p3⟩ := Jvm.FP.Core.product_units x2 y2
  have hz : c * d = 0 := by
    rw [x3, y3] at p3
    have : Jvm.FP.Core.unitsOf Jvm.FP.Core.b32 a.toNat * Jvm.FP.Core.unitsOf Jvm.FP.Core.b32 b.toNat = 0 := by
      rcases h with h | h
      · rw [h, Jvm.FP.Core.unitsOf_zero, Nat.zero_mul]
      · rw [h, Jvm.FP.Core.unitsOf_zero, Nat.mul_zero]
    rw [this] at p3
    unfold Jvm.FP.Core.inUnits at p3
    rcases Nat.mul_eq_zero.mp p3 with h | h
    · exact h
    · have := Nat.two_pow_pos (q + r - 2 * Jvm.FP.Core.b32.qmin).toNat; omega
  have hd : Jvm.FP.Core.val32 (FP.fmul a b) = Jvm.FP.Core.roundRatio Jvm.FP.Core.b32 false (c * d) 1 (q + r) := by
    rw [show FP.fmul a b = Jvm.FP.Core.fmul a b from rfl, Jvm.FP.Core.val32_fmul, x1, y1, p1]; rfl
  have hs := sgn_pos hd
  have hz2 : Jvm.FP.Core.FZero (FP.fmul a b) := ⟨false, Jvm.FP.Core.b32.qmin, by rw [hd, hz]; rfl⟩
  have := (Jvm.FP.Core.zero_bits232 _).mp hz2
  omega
theorem nrm_mul {a b : UInt32} {La Lb : Nat} (ha : a.toNat < 2139095040) (hb : b.toNat < 2139095040) (h1 : nrm La a) (h2 : nrm Lb b) (l1 : 1 ≤ La) (l2 : 1 ≤ Lb) (hL : 128 ≤ La + Lb) (hU : La + Lb ≤ 382) : nrm (La + Lb - 127) (FP.fmul a b) := by
  rcases h1.2 with z | z
  · have := fmul_zl ha hb (Or.inl z)
    exact ⟨by omega, Or.inl this⟩
  · rcases h2.2 with y | y
    · have := fmul_zl ha hb (Or.inr y)
      exact ⟨by omega, Or.inl this⟩
    · have := fmul_low ha hb z y l1 l2 hL hU
      exact ⟨this.1, Or.inr this.2⟩
theorem nrm_add {a b : UInt32} {L : Nat} (ha : a.toNat < 2139095040) (hb : b.toNat < 2139095040) (h1 : nrm L a) (h2 : nrm L b) (hz : a.toNat = 0 → b.toNat = 0 → (FP.fadd a b).toNat = 0) : nrm L (FP.fadd a b) := by
  have q := fadd_low ha hb
  refine ⟨q.1, ?_⟩
  rcases h1.2 with z | z
  · rcases h2.2 with y | y
    · exact Or.inl (hz z y)
    · exact Or.inr (by omega)
  · exact Or.inr (by omega)
theorem fadd_00 {a b : UInt32} (ha : a.toNat = 0) (hb : b.toNat = 0) : (FP.fadd a b).toNat = 0 := by
  have e1 : a = 0 := UInt32.toNat_inj.mp ha
  have e2 : b = 0 := UInt32.toNat_inj.mp hb
  subst e1; subst e2; decide +kernel
