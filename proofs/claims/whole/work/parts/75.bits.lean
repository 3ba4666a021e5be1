/-! FLOATS: a share's bits, as the class finds them and as the reference has them -/
theorem nrm_mono {L L' : Nat} {x : UInt32} (h : nrm L x) (hl : L' ≤ L) : nrm L' x := ⟨h.1, h.2.imp id (fun z => Nat.le_trans (Nat.mul_le_mul_right _ hl) z)⟩
theorem fsum_nrm {f : Int → UInt32} {a : Int} {M L : Nat} : ∀ {n : Nat}, 1 ≤ M → M + 2 * n ≤ 255 → (∀ i : Nat, i < n → nrm L (f (a + i)) ∧ (f (a + i)).toNat % 2 ^ 31 < M * 2 ^ 23) → nrm L (fsum f a n) := by
  intro n
  induction n with
  | zero => intro _ _ _; exact ⟨by show (0 : Nat) < 2 ^ 31; decide, Or.inl rfl⟩
  | succ n ih =>
    intro h1 h2 hf
    have i1 := ih h1 (by omega) (fun i hi => hf i (by omega))
    have i2 := hf n (by omega)
    have m1 := fsum_mag (f := f) (a := a) (M := M) (n := n) h1 (by omega) (fun i hi => (hf i (by omega)).2)
    have s1 := i1.1
    have s2 := i2.1.1
    show nrm L (FP.fadd (fsum f a n) (f (a + n)))
    exact nrm_add (by omega) (by omega) i1 i2.1 (fun p q => fadd_00 p q)
theorem shr_nrm {P : Int → Int → Int} (hP : ∀ c j, 0 ≤ P c j ∧ P c j ≤ 100) {a : Int} : ∀ n : Nat, n ≤ 7 → ∀ j : Int, a ≤ j → j ≤ a + n → nrm (127 - 7 * n) (shr P a j) := by
  intro n
  induction n with
  | zero =>
    intro _ j h0 h1
    have e : j = a := by omega
    subst e
    rw [shr_self]
    exact ⟨by decide, Or.inr (by decide)⟩
  | succ n ih =>
    intro hn j h0 h1
    by_cases e : j ≤ a + n
    · exact nrm_mono (ih (by omega) j h0 e) (by omega)
    · have e2 : j = a + ((n + 1 : Nat) : Int) := by omega
      rw [shr_step (by omega), show (j - a).toNat = n + 1 by omega]
      refine fsum_nrm (M := 184) (by omega) (by omega) (fun i hi => ?_)
      have q1 := ih (by omega) (a + i) (by omega) (by omega)
      have q2 := shr_mag hP (a := a) n (by omega) (a + i) (by omega) (by omega)
      have q3 := ffr_bd (hP (a + i) j).1 (hP (a + i) j).2
      have k1 := (shK_bd n (by omega)).2.1
      have s1 := q1.1
      have q4 : nrm 120 (ffr (P (a + i) j)) := ⟨by omega, q3.2.symm⟩
      refine ⟨nrm_mono (nrm_mul (by omega) (by omega) q1 q4 (by omega) (by omega) (by omega) (by omega)) (by omega), ?_⟩
      exact fs_mulm hP (by omega) (by omega) (hP _ _).1 (hP _ _).2
/-- a share is 0, or a normal number, below 2^72 -/
theorem shr_ok {P : Int → Int → Int} (hP : ∀ c j, 0 ≤ P c j ∧ P c j ≤ 100) {a b : Int} (h0 : a ≤ b) (h1 : b ≤ a + 7) : (shr P a b).toNat < 198 * 2 ^ 23 ∧ ((shr P a b).toNat = 0 ∨ 78 * 2 ^ 23 ≤ (shr P a b).toNat) := by
  have q1 := shr_mag hP (a := a) 7 (by omega) b h0 (by omega)
  have q2 := shr_nrm hP (a := a) 7 (by omega) b h0 (by omega)
  have s := q2.1
  have q3 : (shr P a b).toNat % 2 ^ 31 < 198 * 2 ^ 23 := q1
  exact ⟨by omega, q2.2⟩
theorem jf_cmp {a b : UInt32} (ha : a.toNat < 2139095040) (hb : b.toNat < 2139095040) (op : CmpOp) : jfcmp a b op = if a.toNat < b.toNat then -1 else if a.toNat = b.toNat then 0 else 1 := by
  have na : Jvm.FP.Core.val32 a ≠ .nan := (Jvm.FP.Core.ne_nan32 a).mpr (by omega)
  have nb : Jvm.FP.Core.val32 b ≠ .nan := (Jvm.FP.Core.ne_nan32 b).mpr (by omega)
  obtain ⟨h1, h2, h3⟩ := Jvm.FP.Core.mono_bits32 na nb (by omega) (by omega)
  unfold jfcmp
  by_cases q : a.toNat < b.toNat
  · rw [if_pos q, show FP.fcmp a b = some .lt from h1.mpr q]; rfl
  · rw [if_neg q]
    by_cases q2 : a.toNat = b.toNat
    · rw [if_pos q2, show FP.fcmp a b = some .eq from h2.mpr q2]; rfl
    · rw [if_neg q2, show FP.fcmp a b = some .gt from h3.mpr (by omega)]; rfl
theorem jf_lt {a b : UInt32} (ha : a.toNat < 2139095040) (hb : b.toNat < 2139095040) (op : CmpOp) (h : a.toNat < b.toNat) : jfcmp a b op = -1 := by rw [jf_cmp ha hb, if_pos h]
theorem jf_ge {a b : UInt32} (ha : a.toNat < 2139095040) (hb : b.toNat < 2139095040) (op : CmpOp) (h : b.toNat ≤ a.toNat) : 0 ≤ jfcmp a b op := by
  rw [jf_cmp ha hb, if_neg (by omega)]; split <;> decide
def mkf (E T : Nat) : UInt32 := UInt32.ofNat (E * 2 ^ 23 + T)
theorem mkf_n {E T : Nat} (hE : E ≤ 254) (hT : T < 2 ^ 23) : (mkf E T).toNat = E * 2 ^ 23 + T := by
  unfold mkf
  rw [UInt32.toNat_ofNat']
  exact Nat.mod_eq_of_lt (by omega)
theorem mkf_v {E T : Nat} (h1 : 1 ≤ E) (hE : E ≤ 254) (hT : T < 2 ^ 23) : Jvm.FP.Core.val32 (mkf E T) = .fin false (2 ^ 23 + T) (-149 + ((E : Int) - 1)) ∧ Jvm.FP.Core.fits Jvm.FP.Core.b32 (.fin false (2 ^ 23 + T) (-149 + ((E : Int) - 1))) := by
  have e : (mkf E T).toNat = Jvm.FP.Core.assemble Jvm.FP.Core.b32 false E T := by
    rw [mkf_n hE hT]
    show _ = (0 * Jvm.FP.Core.b32.exps + E) * Jvm.FP.Core.b32.tails + T
    rw [Jvm.FP.Core.tails_b32, Nat.zero_mul, Nat.zero_add]
  have v : Jvm.FP.Core.val32 (mkf E T) = .fin false (2 ^ 23 + T) (-149 + ((E : Int) - 1)) := by
    unfold Jvm.FP.Core.val32
    rw [e, Jvm.FP.Core.decode_assemble _ _ _ _ (by show E < 256; omega) (by rw [Jvm.FP.Core.tails_b32]; exact hT), if_neg (by show ¬ E = 255; omega), if_neg (by omega)]
    rfl
  exact ⟨v, v ▸ Jvm.FP.Core.val32_fits _⟩
theorem v_two : Jvm.FP.Core.val32 FP.fconst2 = .fin false (2 ^ 23) (-22) := by decide +kernel
theorem v_one : Jvm.FP.Core.val32 FP.fconst1 = .fin false (2 ^ 23) (-23) := by decide +kernel
theorem v_p23 : Jvm.FP.Core.val32 1258291200 = .fin false (2 ^ 23) 0 := by decide +kernel
theorem quot_fin (f : Jvm.FP.Core.Fmt) (s t : Bool) (c d : Nat) (q r : Int) (hd : d ≠ 0) : Jvm.FP.Core.quotient f (.fin s c q) (.fin t d r) = Jvm.FP.Core.roundRatio f (s != t) c d (q - r) := by
  show (if d = 0 then (if c = 0 then Jvm.FP.Core.Datum.nan else Jvm.FP.Core.Datum.inf (s != t)) else Jvm.FP.Core.roundRatio f (s != t) c d (q - r)) = _
  rw [if_neg hd]
theorem f_div2 {E T : Nat} (h1 : 2 ≤ E) (hE : E ≤ 254) (hT : T < 2 ^ 23) : FP.fdiv (mkf E T) FP.fconst2 = mkf (E - 1) T := by
  have v := mkf_v (E := E) (T := T) (by omega) hE hT
  have w := mkf_v (E := E - 1) (T := T) (by omega) (by omega) hT
  refine Jvm.FP.Core.val32_inj ?_ ?_ |>.symm
  · rw [w.1]; exact Jvm.FP.Core.Datum.noConfusion
  · rw [show FP.fdiv (mkf E T) FP.fconst2 = Jvm.FP.Core.fdiv (mkf E T) FP.fconst2 from rfl, Jvm.FP.Core.val32_fdiv, v.1, v_two, w.1]
    symm
    rw [quot_fin _ _ _ _ _ _ _ (by decide)]
    show Jvm.FP.Core.roundRatio Jvm.FP.Core.b32 false _ _ _ = _
    refine Jvm.FP.Core.roundRatio_exact Jvm.FP.Core.good_b32 (by decide) w.2 ?_
    rw [show (-149 + ((E : Int) - 1) - -22 - (-149 + (((E - 1 : Nat) : Int) - 1))).toNat = 23 by omega, show (-149 + (((E - 1 : Nat) : Int) - 1) - (-149 + ((E : Int) - 1) - -22)).toNat = 0 by omega, Nat.pow_zero, Nat.mul_one]
theorem f_mul2 {E T : Nat} (h1 : 1 ≤ E) (hE : E ≤ 253) (hT : T < 2 ^ 23) : FP.fmul (mkf E T) FP.fconst2 = mkf (E + 1) T := by
  have v := mkf_v (E := E) (T := T) (by omega) (by omega) hT
  have w := mkf_v (E := E + 1) (T := T) (by omega) (by omega) hT
  refine Jvm.FP.Core.val32_inj ?_ ?_ |>.symm
  · rw [w.1]; exact Jvm.FP.Core.Datum.noConfusion
  · rw [show FP.fmul (mkf E T) FP.fconst2 = Jvm.FP.Core.fmul (mkf E T) FP.fconst2 from rfl, Jvm.FP.Core.val32_fmul, v.1, v_two, w.1]
    symm
    show Jvm.FP.Core.roundRatio Jvm.FP.Core.b32 false ((2 ^ 23 + T) * 2 ^ 23) 1 (-149 + ((E : Int) - 1) + -22) = _
    refine Jvm.FP.Core.roundRatio_exact Jvm.FP.Core.good_b32 (by decide) w.2 ?_
    rw [show (-149 + ((E : Int) - 1) + -22 - (-149 + (((E + 1 : Nat) : Int) - 1))).toNat = 0 by omega, show (-149 + (((E + 1 : Nat) : Int) - 1) - (-149 + ((E : Int) - 1) + -22)).toNat = 23 by omega, Nat.pow_zero, Nat.mul_one, Nat.mul_one]
theorem f_tail {T : Nat} (hT : T < 2 ^ 23) : Jvm.FP.Core.FInt (T : Int) (FP.fmul (FP.fsub (mkf 127 T) FP.fconst1) 1258291200) := by
  have v := mkf_v (E := 127) (T := T) (by omega) (by omega) hT
  have hsub : Jvm.FP.Core.val32 (FP.fsub (mkf 127 T) FP.fconst1) = Jvm.FP.Core.round Jvm.FP.Core.b32 (.fin false T (-23)) := by
    rw [show FP.fsub (mkf 127 T) FP.fconst1 = Jvm.FP.Core.fsub (mkf 127 T) FP.fconst1 from rfl, Jvm.FP.Core.val32_fsub, v.1, v_one]
    congr 1
    show Jvm.FP.Core.exactSum (.fin false (2 ^ 23 + T) (-23)) (.fin true (2 ^ 23) (-23)) = _
    have hu : Jvm.FP.Core.sumUnits false (2 ^ 23 + T) (-23) true (2 ^ 23) (-23) (min (-23) (-23)) = (T : Int) := by
      show (((2 ^ 23 + T) * 2 ^ 0 : Nat) : Int) + -(((2 ^ 23) * 2 ^ 0 : Nat) : Int) = _
      omega
    have hg : Jvm.FP.Core.sumSign false true (T : Int) = false := by
      unfold Jvm.FP.Core.sumSign
      split
      · rfl
      · exact decide_eq_false (by omega)
    show Jvm.FP.Core.Datum.fin (Jvm.FP.Core.sumSign false true (Jvm.FP.Core.sumUnits false (2 ^ 23 + T) (-23) true (2 ^ 23) (-23) (min (-23) (-23)))) (Jvm.FP.Core.sumUnits false (2 ^ 23 + T) (-23) true (2 ^ 23) (-23) (min (-23) (-23))).natAbs (min (-23) (-23)) = _
    rw [hu, hg]
    rfl
  obtain ⟨c', q', h1, h2⟩ := Jvm.FP.Core.round_exact Jvm.FP.Core.good_b32 false (c := T) (q := -23) (by show T < 2 ^ 24; omega) (by rw [Jvm.FP.Core.qmin_b32]; decide) (by decide)
  have hf : Jvm.FP.Core.fits Jvm.FP.Core.b32 (.fin false c' q') := by rw [← h1]; exact Jvm.FP.Core.round_fits Jvm.FP.Core.good_b32 _
  have hq := hf.2.1
  rw [Jvm.FP.Core.qmin_b32] at hq h2
  unfold Jvm.FP.Core.FInt
  rw [show FP.fmul (FP.fsub (mkf 127 T) FP.fconst1) 1258291200 = Jvm.FP.Core.fmul (FP.fsub (mkf 127 T) FP.fconst1) 1258291200 from rfl, Jvm.FP.Core.val32_fmul, hsub, h1, v_p23]
  refine Jvm.FP.Core.whole_round Jvm.FP.Core.good_b32 Jvm.FP.Core.wide_b32 (by show (T : Int).natAbs ≤ 2 ^ 24; omega) ?_
  show Jvm.FP.Core.Whole (T : Int) (.fin false (c' * 2 ^ 23) (q' + 0))
  rw [Int.add_zero]
  unfold Jvm.FP.Core.inUnits at h2
  rw [show ((-23 : Int) - -149).toNat = 126 from rfl] at h2
  have key : c' * 2 ^ 23 * 2 ^ q'.toNat = T * 2 ^ (-q').toNat := by
    refine Nat.eq_of_mul_eq_mul_right (Nat.two_pow_pos 126) ?_
    have e1 : c' * 2 ^ 23 * 2 ^ q'.toNat * 2 ^ 126 = c' * 2 ^ (q'.toNat + 149) := by
      rw [show q'.toNat + 149 = 23 + q'.toNat + 126 by omega, Nat.pow_add, Nat.pow_add, Nat.mul_assoc, Nat.mul_assoc, Nat.mul_assoc]
    have e2 : q'.toNat + 149 = (q' - -149).toNat + (-q').toNat := by omega
    rw [e1, e2, Nat.pow_add, ← Nat.mul_assoc, h2, Nat.mul_assoc, Nat.mul_assoc, Nat.mul_comm (2 ^ 126)]
  show ((c' * 2 ^ 23 * 2 ^ q'.toNat : Nat) : Int) = (T : Int) * ((2 ^ (-q').toNat : Nat) : Int)
  rw [key, Int.natCast_mul]
theorem tb_nat (n : Nat) {i : Nat} (hi : i < 32) : tb (n : Int) i = n.testBit i := by
  unfold tb
  rw [oN]
  show (BitVec.ofNat 32 n).getLsbD i = _
  rw [BitVec.getLsbD_ofNat, decide_eq_true hi, Bool.true_and]
theorem jor_sh {E T : Nat} (hE : E ≤ 254) (hT : T < 2 ^ 23) : jor (jshl (E : Int) 23) (T : Int) = ((E * 2 ^ 23 + T : Nat) : Int) := by
  refine tb_ext (jor_R _ _) ⟨by omega, by omega⟩ (fun i hi => ?_)
  have e : jshl (E : Int) 23 = jshl (E : Int) ((23 : Nat) : Int) := rfl
  rw [tb_or, e, tb_shl (by omega) hi, tb_nat _ (by omega), tb_nat _ hi, tb_nat _ hi, Nat.mul_comm, Nat.testBit_two_pow_mul_add _ hT]
  by_cases h : i < 23
  · rw [if_pos h, decide_eq_false (by omega), Bool.false_and, Bool.false_or]
  · rw [if_neg h, decide_eq_true (by omega), Bool.true_and, Nat.testBit_lt_two_pow (Nat.lt_of_lt_of_le hT (Nat.pow_le_pow_right (by decide) (by omega))), Bool.or_false]
theorem c_one : FP.fconst1.toNat = 127 * 2 ^ 23 := rfl
theorem c_two : FP.fconst2.toNat = 128 * 2 ^ 23 := rfl
theorem k_bits_end {N : Nat} {σ : Sto} {E T : Nat} (hE : E ≤ 254) (hT : T < 2 ^ 23) : F_X11_bitsOf_J67 N (mkf 127 T) (E : Int) σ = some ((E * 2 ^ 23 + T : Nat) : Int) := by
  have n := mkf_n (E := 127) (T := T) (by omega) hT
  have m1 := Jvm.FP.Core.fsub_mag (a := mkf 127 T) (b := FP.fconst1) (K := 128) (by omega) (by decide) (by omega)
  have m2 := Jvm.FP.Core.fmul_mag (a := FP.fsub (mkf 127 T) FP.fconst1) (b := 1258291200) (Ka := 130) (Kb := 151) m1 (by decide) (by omega) (by omega)
  have f := f_tail hT
  have e : FP.f2i (FP.fmul (FP.fsub (mkf 127 T) FP.fconst1) 1258291200) = Int32.ofInt (T : Int) := Jvm.FP.Core.f2i_int (by rw [t_ofI ⟨by omega, by omega⟩]; exact f)
  unfold F_X11_bitsOf_J67 jf2i
  rw [grd_in (n32_of m1 (by omega)), grd_in (n32_of m2 (by omega)), e, t_ofI ⟨by omega, by omega⟩, jor_sh hE hT]
theorem k_bits2 {N : Nat} (hN : BigN N) {σ : Sto} {E T : Nat} (h1 : 1 ≤ E) (hE : E ≤ 127) (hT : T < 2 ^ 23) (e0 : Nat) (he : e0 ≤ 254) (he1 : 127 ≤ e0) : F_X11_bitsOf_J40 N (mkf E T) (e0 : Int) σ = some (((e0 - (127 - E)) * 2 ^ 23 + T : Nat) : Int) := by
  unfold F_X11_bitsOf_J40
  refine loopK_for (s := fun k => (mkf (E + k) T, ((e0 - k : Nat) : Int), (k : Int))) (127 - E) (bigN hN) (fun k hk nx => ?_) (fun nx => ?_)
  · show F_X11_bitsOf_B42 N nx (mkf (E + k) T) ((e0 - k : Nat) : Int) (k : Int) σ = _
    have n := mkf_n (E := E + k) (T := T) (by omega) hT
    have n2 := mkf_n (E := E + k + 1) (T := T) (by omega) hT
    unfold F_X11_bitsOf_B42
    rw [if_neg (by omega), jf_lt (by omega) (by decide) _ (by rw [c_one]; omega), if_neg (by decide), f_mul2 (by omega) (by omega) hT, grd_in (n32_of (K := 128) (by omega) (by omega)), ja_1 (by omega) (by omega), js_eq ⟨by omega, by omega⟩]
    congr 1
    refine Prod.ext ?_ (Prod.ext ?_ ?_)
    · show mkf (E + k + 1) T = mkf (E + (k + 1)) T; rfl
    · show ((e0 - k : Nat) : Int) - 1 = ((e0 - (k + 1) : Nat) : Int); omega
    · show (k : Int) + 1 = ((k + 1 : Nat) : Int); omega
  · show F_X11_bitsOf_B42 N nx (mkf (E + (127 - E)) T) ((e0 - (127 - E) : Nat) : Int) ((127 - E : Nat) : Int) σ = _
    rw [show E + (127 - E) = 127 by omega]
    have n := mkf_n (E := 127) (T := T) (by omega) hT
    unfold F_X11_bitsOf_B42
    by_cases h : (126 : Int) ≤ ((127 - E : Nat) : Int)
    · rw [if_pos h]
      exact k_bits_end (by omega) hT
    · rw [if_neg h, if_pos (jf_ge (by omega) (by decide) _ (by rw [c_one]; omega))]
      exact k_bits_end (by omega) hT
theorem k_bitsOf {N : Nat} (hN : BigN N) {σ : Sto} {x : UInt32} (h : x.toNat < 2139095040) (h2 : x.toNat = 0 ∨ 2 ^ 23 ≤ x.toNat) : F_X11_bitsOf N x σ = some (x.toNat : Int) := by
  unfold F_X11_bitsOf
  have z0 : FP.fconst0.toNat = 0 := rfl
  rcases h2 with z | z
  · have hc : jfcmp x FP.fconst0 .l = 0 := by rw [jf_cmp h (by decide), z0, if_neg (by omega), if_pos z]
    rw [hc, if_neg (by decide), z]; rfl
  · have hc : jfcmp x FP.fconst0 .l = 1 := by rw [jf_cmp h (by decide), z0, if_neg (by omega), if_neg (by omega)]
    rw [hc, if_pos (by decide)]
    obtain ⟨E, hE⟩ : ∃ E, E = x.toNat / 2 ^ 23 := ⟨_, rfl⟩
    obtain ⟨T, hT⟩ : ∃ T, T = x.toNat % 2 ^ 23 := ⟨_, rfl⟩
    have t1 : T < 2 ^ 23 := by omega
    have e1 : x.toNat = E * 2 ^ 23 + T := by omega
    have e2 : 1 ≤ E ∧ E ≤ 254 := by omega
    have ex : x = mkf E T := UInt32.toNat_inj.mp (by rw [mkf_n e2.2 t1]; exact e1)
    rw [ex, ← ex, e1, ex]
    refine loopK_for (s := fun k => (mkf (E - k) T, ((127 + k : Nat) : Int), (k : Int))) (E - 127) (bigN hN) (fun k hk nx => ?_) (fun nx => ?_)
    · show F_X11_bitsOf_B15 N nx (mkf (E - k) T) ((127 + k : Nat) : Int) (k : Int) σ = _
      have n := mkf_n (E := E - k) (T := T) (by omega) t1
      have n2 := mkf_n (E := E - k - 1) (T := T) (by omega) t1
      unfold F_X11_bitsOf_B15
      rw [if_neg (by omega), if_neg (Int.not_lt.mpr (jf_ge (by omega) (by decide) _ (by rw [c_two]; omega))), f_div2 (by omega) (by omega) t1, grd_in (n32_of (K := 255) (by omega) (by omega)), ja_1 (by omega) (by omega), ja_1 (by omega) (by omega)]
      congr 1
    · show F_X11_bitsOf_B15 N nx (mkf (E - (E - 127)) T) ((127 + (E - 127) : Nat) : Int) ((E - 127 : Nat) : Int) σ = _
      have key : F_X11_bitsOf_J40 N (mkf (E - (E - 127)) T) ((127 + (E - 127) : Nat) : Int) σ = some ((E * 2 ^ 23 + T : Nat) : Int) := by
        rw [k_bits2 hN (by omega) (by omega) t1 _ (by omega) (by omega), show 127 + (E - 127) - (127 - (E - (E - 127))) = E by omega]
      have n := mkf_n (E := E - (E - 127)) (T := T) (by omega) t1
      unfold F_X11_bitsOf_B15
      by_cases h : (127 : Int) ≤ ((E - 127 : Nat) : Int)
      · rw [if_pos h]; exact key
      · rw [if_neg h, jf_lt (by omega) (by decide) _ (by rw [c_two]; omega), if_pos (by decide)]
        exact key
theorem m_jfbits {x : UInt32} (h : x.toNat < 2139095040) : jfbits x = (x.toNat : Int) := by
  unfold jfbits
  have hc : jfcmp x x .l = 0 := by rw [jf_cmp h h, if_neg (by omega), if_pos rfl]
  rw [hc, if_pos rfl]
  show x.toBitVec.toInt = _
  exact BitVec.toInt_eq_toNat_of_lt (by show 2 * x.toNat < 2 ^ 32; omega)
/-! doubles: parts -/
theorem d_ok {x : UInt32} (h : x.toNat < 2139095040) : vf_n64 (FP.f2d x) ∧ vf_n64 (FP.dmul (FP.f2d x) 4666723172467343360) ∧ vf_n64 (FP.dadd (FP.dmul (FP.f2d x) 4666723172467343360) 4602678819172646912) := by
  have f : Jvm.FP.Core.FFin x := (Jvm.FP.Core.fin_bits32 x).mpr (by omega)
  have e : FP.f2d x = Jvm.FP.Core.f2d x := Jvm.FP.f2d_core f.notNaN
  have d : Jvm.FP.Core.DFin (FP.f2d x) := by rw [e]; exact Jvm.FP.Core.f2d_fin f
  have d2 : Jvm.FP.Core.DFin 4666723172467343360 := (Jvm.FP.Core.fin_bits _).mpr (by decide)
  have d3 : Jvm.FP.Core.DFin 4602678819172646912 := (Jvm.FP.Core.fin_bits _).mpr (by decide)
  exact ⟨n64_nn d.notNaN, n64_nn (Jvm.FP.Core.dmul_out d d2), n64_nn (Jvm.FP.Core.dadd_out (Jvm.FP.Core.dmul_out d d2) d3)⟩
