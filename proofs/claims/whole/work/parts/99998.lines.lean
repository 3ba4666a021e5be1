/-! lines, read by both: what each has read so far -/
def RdM (m : Sto) (E : Dk) : Prop := (m.1 94 12 = dm E ∧ m.1 94 15 = dp E ∧ m.1 94 18 = dn E ∧ m.1 100 4 = E.2 0 0 ∧ m.1 100 5 = E.2 0 1 ∧ m.1 100 6 = E.2 0 2 ∧ m.1 100 7 = E.2 0 3) ∧ (∀ k : Int, 0 ≤ k → k < dm E → m.1 97 (24 + 3 * k) = E.2 1 k ∧ m.1 97 (24 + 3 * k + 1) = E.2 2 k ∧ m.1 97 (24 + 3 * k + 2) = E.2 3 k) ∧ (∀ p : Int, 0 ≤ p → p < dp E → m.1 98 (48 + 4 * p) = E.2 4 p ∧ m.1 98 (48 + 4 * p + 1) = E.2 5 p ∧ m.1 98 (48 + 4 * p + 2) = E.2 6 p ∧ m.1 98 (48 + 4 * p + 3) = E.2 7 p) ∧ (∀ k : Int, 0 ≤ k → k < dn E → m.1 99 (64 + 4 * k) = E.2 8 k ∧ m.1 99 (64 + 4 * k + 1) = E.2 9 k ∧ m.1 99 (64 + 4 * k + 2) = E.2 10 k ∧ m.1 99 (64 + 4 * k + 3) = E.2 11 k)
def TX (c m : Sto) (b n : Nat) (C : Nat → Int) (E : Dk) (L : Int) : Prop := BX c n C ∧ BM m n C ∧ BokR c b E ∧ RdM m E ∧ Val E ∧ dc E = 0 ∧ dn E ≤ 16 ∧ c.1 1 8 = m.1 94 21 ∧ c.1 1 7 = L ∧ c.1 1 9 = m.1 94 4 ∧ c.1 1 10 = m.1 94 5 ∧ (b = 3 ∨ b = 16)
/-- changes that leave what is read -/
def KcT (b : Nat) (E : Dk) (c c' : Sto) : Prop := (∀ (y : Nat) (z : Int), ¬ (y = 1 ∧ 3 ≤ z ∧ z ≤ 6) → ¬ (b + 1 ≤ y ∧ y ≤ b + 3 ∧ z = dm E) → ¬ (b + 4 ≤ y ∧ y ≤ b + 7 ∧ z = dp E) → c'.1 y z = c.1 y z) ∧ c'.2 = c.2
def KmT (E : Dk) (m m' : Sto) : Prop := (∀ y z, ¬ (y = 94 ∧ ((7 ≤ z ∧ z ≤ 10) ∨ z = 22)) → ¬ (y = 97 ∧ 24 + 3 * (dm E : Int) ≤ z) → ¬ (y = 98 ∧ 48 + 4 * (dp E : Int) ≤ z) → ¬ (y = 99 ∧ 64 + 4 * (dn E : Int) ≤ z) → m'.1 y z = m.1 y z) ∧ m'.2 = m.2
/-- all that reading may change -/
def FrC (b : Nat) (c c' : Sto) : Prop := (∀ y z, ¬ (y = 1 ∧ 3 ≤ z) → ¬ (b ≤ y ∧ y ≤ b + 12) → c'.1 y z = c.1 y z) ∧ c'.2 = c.2
def FrM (m m' : Sto) : Prop := (∀ y z, ¬ (y = 94 ∧ (z = 4 ∨ z = 5 ∨ (7 ≤ z ∧ z ≤ 10) ∨ z = 12 ∨ z = 15 ∨ z = 18 ∨ z = 21 ∨ z = 22)) → ¬ (y = 97 ∧ 24 ≤ z) → ¬ (y = 98 ∧ 48 ≤ z) → ¬ (y = 99 ∧ 64 ≤ z) → ¬ (y = 100 ∧ 4 ≤ z) → m'.1 y z = m.1 y z) ∧ m'.2 = m.2
section LN
variable {N : Nat} {c c' c'' m m' m'' : Sto} {b n : Nat} {C : Nat → Int} {E : Dk} {L : Int}
theorem KcT.rf : KcT b E c c := ⟨fun _ _ _ _ _ => rfl, rfl⟩
theorem KmT.rf : KmT E m m := ⟨fun _ _ _ _ _ _ => rfl, rfl⟩
theorem KcT.tr (h : KcT b E c c') (h' : KcT b E c' c'') : KcT b E c c'' := ⟨fun y z p q r => by rw [h'.1 y z p q r]; exact h.1 y z p q r, h'.2.trans h.2⟩
theorem KmT.tr (h : KmT E m m') (h' : KmT E m' m'') : KmT E m m'' := ⟨fun y z p q r s => by rw [h'.1 y z p q r s]; exact h.1 y z p q r s, h'.2.trans h.2⟩
theorem FrC.rf : FrC b c c := ⟨fun _ _ _ _ => rfl, rfl⟩
theorem FrM.rf : FrM m m := ⟨fun _ _ _ _ _ _ _ => rfl, rfl⟩
theorem FrC.tr (h : FrC b c c') (h' : FrC b c' c'') : FrC b c c'' := ⟨fun y z p q => by rw [h'.1 y z p q]; exact h.1 y z p q, h'.2.trans h.2⟩
theorem FrM.tr (h : FrM m m') (h' : FrM m' m'') : FrM m m'' := ⟨fun y z p q r s t => by rw [h'.1 y z p q r s t]; exact h.1 y z p q r s t, h'.2.trans h.2⟩
theorem KcT.fr (h : KcT b E c c') : FrC b c c' := ⟨fun y z p q => h.1 y z (by omega) (by omega) (by omega), h.2⟩
theorem KmT.fr (h : KmT E m m') : FrM m m' := ⟨fun y z p q r s t => h.1 y z (by omega) (by omega) (by omega) (by omega), h.2⟩
def KC0 (c c' : Sto) : Prop := (∀ (y : Nat) (z : Int), ¬ (y = 1 ∧ 3 ≤ z ∧ z ≤ 6) → c'.1 y z = c.1 y z) ∧ c'.2 = c.2
def KM0 (m m' : Sto) : Prop := (∀ (y : Nat) (z : Int), ¬ (y = 94 ∧ ((7 ≤ z ∧ z ≤ 10) ∨ z = 22)) → m'.1 y z = m.1 y z) ∧ m'.2 = m.2
theorem KC0.k (h : KC0 c c') : KcT b E c c' := ⟨fun y z p _ _ => h.1 y z p, h.2⟩
theorem KM0.k (h : KM0 m m') : KmT E m m' := ⟨fun y z p _ _ _ => h.1 y z p, h.2⟩
theorem KC0.fr (h : KC0 c c') : FrC b c c' := ⟨fun y z p q => h.1 y z (by omega), h.2⟩
theorem KM0.fr (h : KM0 m m') : FrM m m' := ⟨fun y z p q r s t => h.1 y z (by omega), h.2⟩
theorem KC0.tr (h : KC0 c c') (h' : KC0 c' c'') : KC0 c c'' := ⟨fun y z p => by rw [h'.1 y z p]; exact h.1 y z p, h'.2.trans h.2⟩
theorem KM0.tr (h : KM0 m m') (h' : KM0 m' m'') : KM0 m m'' := ⟨fun y z p => by rw [h'.1 y z p]; exact h.1 y z p, h'.2.trans h.2⟩
theorem KM0.of (h : ∀ y z, ¬ (y = 94 ∧ 7 ≤ z ∧ z ≤ 10) → m'.1 y z = m.1 y z) (h2 : m'.2 = m.2) : KM0 m m' := ⟨fun y z p => h y z (by omega), h2⟩
theorem KM0.g22 {x : Int} : KM0 m (upI m 94 22 x) := ⟨fun y z p => upI_ne (by omega), rfl⟩
theorem KcT.of (h : ∀ y z, ¬ (y = 1 ∧ 3 ≤ z ∧ z ≤ 6) → c'.1 y z = c.1 y z) (h2 : c'.2 = c.2) : KcT b E c c' := ⟨fun y z p _ _ => h y z p, h2⟩
theorem KmT.of (h : ∀ y z, ¬ (y = 94 ∧ 7 ≤ z ∧ z ≤ 10) → m'.1 y z = m.1 y z) (h2 : m'.2 = m.2) : KmT E m m' := ⟨fun y z p _ _ _ => h y z (by omega), h2⟩
theorem KmT.g22 {x : Int} : KmT E m (upI m 94 22 x) := ⟨fun y z p _ _ _ => upI_ne (by omega), rfl⟩
theorem BX.kc (hb : 3 ≤ b) (h : BX c n C) (k : KcT b E c c') : BX c' n C := h.cg (k.1 _ _ (by omega) (by omega) (by omega)) (fun z => k.1 _ _ (by omega) (by omega) (by omega))
theorem BM.km (h : BM m n C) (k : KmT E m m') : BM m' n C := h.cg (k.1 _ _ (by omega) (by omega) (by omega) (by omega)) (fun z => k.1 _ _ (by omega) (by omega) (by omega) (by omega)) (fun z => k.1 _ _ (by omega) (by omega) (by omega) (by omega))
theorem TX.k (h : TX c m b n C E L) (h1 : KcT b E c c') (h2 : KmT E m m') : TX c' m' b n C E L := by
  obtain ⟨t1, t2, ⟨t3, t4, t5, t6⟩, ⟨t7, t8, t9, t10⟩, t11, t12, t13, t14, t15, t16, t17, t18⟩ := h
  have e1 : ∀ (y : Nat) (z : Int), ¬ (y = 1 ∧ 3 ≤ z ∧ z ≤ 6) → ¬ (b + 1 ≤ y ∧ y ≤ b + 3 ∧ z = dm E) → ¬ (b + 4 ≤ y ∧ y ≤ b + 7 ∧ z = dp E) → c'.1 y z = c.1 y z := h1.1
  have e2 : ∀ y z, ¬ (y = 94 ∧ ((7 ≤ z ∧ z ≤ 10) ∨ z = 22)) → ¬ (y = 97 ∧ 24 + 3 * (dm E : Int) ≤ z) → ¬ (y = 98 ∧ 48 + 4 * (dp E : Int) ≤ z) → ¬ (y = 99 ∧ 64 + 4 * (dn E : Int) ≤ z) → m'.1 y z = m.1 y z := h2.1
  refine ⟨t1.kc (by omega) h1, t2.km h2, ⟨?_, fun k k0 k1 => ?_, fun k k0 k1 => ?_, t6.cg (fun a j p q => e1 a j (by omega) (by omega) (by omega))⟩, ⟨?_, fun k k0 k1 => ?_, fun k k0 k1 => ?_, fun k k0 k1 => ?_⟩, t11, t12, t13, ?_, ?_, ?_, ?_, t18⟩
  · rw [e1 b 8 (by omega) (by omega) (by omega), e1 b 9 (by omega) (by omega) (by omega), e1 b 10 (by omega) (by omega) (by omega), e1 b 11 (by omega) (by omega) (by omega), e1 b 12 (by omega) (by omega) (by omega), e1 b 13 (by omega) (by omega) (by omega)]; exact t3
  · rw [e1 (b + 1) k (by omega) (by omega) (by omega), e1 (b + 2) k (by omega) (by omega) (by omega), e1 (b + 3) k (by omega) (by omega) (by omega)]; exact t4 k k0 k1
  · rw [e1 (b + 4) k (by omega) (by omega) (by omega), e1 (b + 5) k (by omega) (by omega) (by omega), e1 (b + 6) k (by omega) (by omega) (by omega), e1 (b + 7) k (by omega) (by omega) (by omega)]; exact t5 k k0 k1
  · rw [e2 94 12 (by omega) (by omega) (by omega) (by omega), e2 94 15 (by omega) (by omega) (by omega) (by omega), e2 94 18 (by omega) (by omega) (by omega) (by omega), e2 100 4 (by omega) (by omega) (by omega) (by omega), e2 100 5 (by omega) (by omega) (by omega) (by omega), e2 100 6 (by omega) (by omega) (by omega) (by omega), e2 100 7 (by omega) (by omega) (by omega) (by omega)]; exact t7
  · rw [e2 97 (24 + 3 * k) (by omega) (by omega) (by omega) (by omega), e2 97 (24 + 3 * k + 1) (by omega) (by omega) (by omega) (by omega), e2 97 (24 + 3 * k + 2) (by omega) (by omega) (by omega) (by omega)]; exact t8 k k0 k1
  · rw [e2 98 (48 + 4 * k) (by omega) (by omega) (by omega) (by omega), e2 98 (48 + 4 * k + 1) (by omega) (by omega) (by omega) (by omega), e2 98 (48 + 4 * k + 2) (by omega) (by omega) (by omega) (by omega), e2 98 (48 + 4 * k + 3) (by omega) (by omega) (by omega) (by omega)]; exact t9 k k0 k1
  · rw [e2 99 (64 + 4 * k) (by omega) (by omega) (by omega) (by omega), e2 99 (64 + 4 * k + 1) (by omega) (by omega) (by omega) (by omega), e2 99 (64 + 4 * k + 2) (by omega) (by omega) (by omega) (by omega), e2 99 (64 + 4 * k + 3) (by omega) (by omega) (by omega) (by omega)]; exact t10 k k0 k1
  · rw [e1 _ _ (by omega) (by omega) (by omega), e2 _ _ (by omega) (by omega) (by omega) (by omega)]; exact t14
  · rw [e1 _ _ (by omega) (by omega) (by omega)]; exact t15
  · rw [e1 _ _ (by omega) (by omega) (by omega), e2 _ _ (by omega) (by omega) (by omega) (by omega)]; exact t16
  · rw [e1 _ _ (by omega) (by omega) (by omega), e2 _ _ (by omega) (by omega) (by omega) (by omega)]; exact t17
/-- both fail, alike -/
def flt (c : Sto) (f : Int) : Sto := upI (upI c 1 9 f) 1 10 (c.1 1 5)
def wrg (m : Sto) (f : Int) : Sto := upI (upI m 94 4 f) 94 5 (m.1 94 10)
def Bad (b : Nat) (c m cf mf : Sto) : Prop := FrC b c cf ∧ FrM m mf ∧ cf.1 1 9 = mf.1 94 4 ∧ cf.1 1 10 = mf.1 94 5
def Two (oc om : Option (Int × Sto)) (b : Nat) (c m : Sto) (G : Sto → Sto → Prop) : Prop := ∃ c' m', (oc = some (1, c') ∧ om = some (1, m') ∧ G c' m') ∨ (oc = some (0, c') ∧ om = some (0, m') ∧ Bad b c m c' m')
theorem k_fail {f : Int} : F_X8_fail N f c = some (0, flt c f) := by
  unfold F_X8_fail flt
  rw [up_ix (by decide)]
theorem m_wrong {f : Int} : F_X12_wrong N f m = some (0, wrg m f) := by
  unfold F_X12_wrong wrg
  rw [up_ix (by decide)]
theorem bad_mk {f : Int} (h1 : FrC b c c') (h2 : FrM m m') (e : c'.1 1 5 = m'.1 94 10) : Bad b c m (flt c' f) (wrg m' f) := by
  refine ⟨h1.tr ⟨fun y z p q => ?_, rfl⟩, h2.tr ⟨fun y z p q r s t => ?_, rfl⟩, ?_, ?_⟩
  · unfold flt; rw [upI_ne (by omega), upI_ne (by omega)]
  · unfold wrg; rw [upI_ne (by omega), upI_ne (by omega)]
  · unfold flt wrg; rw [up_ix (by decide), up_same, up_ix (by decide), up_same]
  · unfold flt wrg; rw [up_same, up_same, e]
theorem Bad.pre {cf mf : Sto} (h : Bad b c' m' cf mf) (h1 : FrC b c c') (h2 : FrM m m') : Bad b c m cf mf := ⟨h1.tr h.1, h2.tr h.2.1, h.2.2⟩
/-- what a token's kind says of it -/
theorem tok_f {p s e : Nat} {k v w : Int} (T : TokP C n p s e k v w) : p ≤ s ∧ s ≤ e ∧ e ≤ n ∧ (0 ≤ k ∧ k ≤ 6) ∧ (k ≠ 0 → s < e) ∧ (k = 1 → v = w ∧ 0 ≤ v ∧ v ≤ 6) ∧ (k = 2 → v = w) ∧ (k = 3 ∨ k = 4 → v = w ∨ (99999 < v ∧ 99999 < w) ∨ (v < -99999 ∧ w < -99999)) := by
  obtain ⟨⟨a1, a2, -, -⟩, T⟩ := T
  rcases T with ⟨T1, T2, T3⟩ | ⟨T1, T2, T3, T4⟩ | ⟨T1, T2, T3, T4, T5, T6⟩ | ⟨T1, T2, T3, T4⟩ | ⟨T1, T2, T3, T4, T5, T6, T7, T8⟩ | ⟨T1, T2, T3, T4, T5, T6, T7⟩
  · exact ⟨a1, by omega, by omega, by omega, by omega, by omega, by omega, by omega⟩
  · have hse : s < e := by
      rcases T3.2.2.2 with z | z
      · omega
      · rcases Nat.lt_or_ge s e with y | y
        · exact y
        · have : e = s := by have := T3.1; omega
          rw [this, T2] at z; cases z
    have := T3.2.1
    rcases T4 with ⟨q1, q2⟩ | ⟨q1, j, q2, q3, q4, q5, q6⟩ | ⟨q1, q2, q3, q4, q5⟩
    · exact ⟨a1, by omega, by omega, by omega, by omega, by omega, by omega, by omega⟩
    · exact ⟨a1, by omega, by omega, by omega, by omega, by omega, by omega, by omega⟩
    · exact ⟨a1, by omega, by omega, by omega, by omega, by omega, fun _ => q5.symm, by omega⟩
  · have hse : s < e := by
      rcases T3.2.2.2 with z | z
      · omega
      · rcases Nat.lt_or_ge s e with y | y
        · exact y
        · have : e = s := by have := T3.1; omega
          rw [this, T2] at z; cases z
    have := T3.2.1
    have dg : ∀ i, i < e - s → 48 ≤ C (s + i) ∧ C (s + i) ≤ 57 := fun i hi => of_decide_eq_true (T3.2.2.1 (s + i) (by omega) (by omega))
    have nb := nm_rel (C := C) (s := s) (k := e - s) dg
    exact ⟨a1, by omega, by omega, by omega, by omega, by omega, by omega, fun _ => by rw [T5, T6]; omega⟩
  · exact ⟨a1, by omega, by omega, by omega, by omega, by omega, by omega, by omega⟩
  · have h1 := T5.1
    have := T5.2.1
    have dg : ∀ i, i < e - (s + 1) → 48 ≤ C (s + 1 + i) ∧ C (s + 1 + i) ≤ 57 := fun i hi => of_decide_eq_true (T5.2.2.1 (s + 1 + i) (by omega) (by omega))
    have nb := nm_rel (C := C) (s := s + 1) (k := e - (s + 1)) dg
    exact ⟨a1, by omega, by omega, by omega, by omega, by omega, by omega, fun _ => by rw [T7, T8]; omega⟩
  · exact ⟨a1, by omega, by omega, by omega, by omega, by omega, by omega, by omega⟩
theorem kM_3 {k : Int} (h : 0 ≤ k ∧ k ≤ 6) : (kM k = 3 ↔ k = 3) ∧ (kM k = 6 ↔ k = 4) ∧ (kM k = 2 ↔ k = 2) ∧ (kM k = 1 ↔ k = 1) ∧ (kM k = 4 ↔ k = 5) ∧ (kM k = 0 ↔ k = 0) := by
  unfold kM
  split
  · omega
  · split
    · omega
    · split <;> omega
/-- the reference one token ahead -/
def MB (c m : Sto) (n : Nat) (C : Nat → Int) (p s e : Nat) (k v w : Int) : Prop := c.1 1 3 = p ∧ TokP C n p s e k v w ∧ m.1 94 7 = e ∧ m.1 94 10 = s ∧ m.1 94 8 = kM k ∧ (1 ≤ k ∧ k ≤ 4 → m.1 94 9 = w)
theorem tokB (hN : BigN N) (B : BM m n C) {p : Nat} (hp : p ≤ n) (h1 : c.1 1 3 = p) (h2 : m.1 94 7 = p) : ∃ m' s e k v w, F_X12_token N m = some m' ∧ MB c m' n C p s e k v w ∧ KM0 m m' ∧ m'.1 94 22 = m.1 94 22 := by
  obtain ⟨s, e, k, v, w, T⟩ := tok_ex C n p hp
  obtain ⟨m', a1, ⟨a2, a3, a4⟩, a5, a6, a7⟩ := m_token hN B T h2
  exact ⟨m', s, e, k, v, w, a1, ⟨h1, T, a2, a3, a4, a5⟩, KM0.of a6 a7, a6 _ _ (by omega)⟩
theorem k_expect (hN : BigN N) (B : BX c n C) {p s e : Nat} {k v w : Int} (T : TokP C n p s e k v w) (hp : c.1 1 3 = p) (x : Int) : ∃ c', F_X8_expect N x c = (if k = x then some (1, c') else some (0, flt c' 1)) ∧ (c'.1 1 3 = e ∧ c'.1 1 5 = s) ∧ (1 ≤ k ∧ k ≤ 4 → c'.1 1 6 = v) ∧ KC0 c c' := by
  obtain ⟨c', a1, ⟨a2, a3, a4⟩, a5, a6, a7⟩ := k_next hN B T hp
  refine ⟨c', ?_, ⟨a2, a3⟩, a5, a6, a7⟩
  unfold F_X8_expect F_X8_expect_J20
  rw [a1, Option.bind_some, a4, k_fail, Option.bind_some, if_pos rfl]
theorem k_num (hN : BigN N) (B : BX c n C) {p s e : Nat} {k v w : Int} (T : TokP C n p s e k v w) (hp : c.1 1 3 = p) (lo hi : Int) : ∃ c', F_X8_expectNumber N lo hi c = (if k = 3 ∨ (k = 4 ∧ lo < 0) then (if lo ≤ v ∧ v ≤ hi then some (1, c') else some (0, flt c' 2)) else some (0, flt c' 1)) ∧ (c'.1 1 3 = e ∧ c'.1 1 5 = s) ∧ (1 ≤ k ∧ k ≤ 4 → c'.1 1 6 = v) ∧ KC0 c c' := by
  obtain ⟨c', a1, ⟨a2, a3, a4⟩, a5, a6, a7⟩ := k_next hN B T hp
  refine ⟨c', ?_, ⟨a2, a3⟩, a5, a6, a7⟩
  have j : (1 ≤ k ∧ k ≤ 4) → F_X8_expectNumber_J30 N lo hi c' = if lo ≤ v ∧ v ≤ hi then some (1, c') else some (0, flt c' 2) := fun h => by
    unfold F_X8_expectNumber_J30 F_X8_expectNumber_J46 F_X8_expectNumber_J54
    rw [a5 h, k_fail, Option.bind_some, if_pos rfl]
    by_cases q : v < lo
    · rw [if_pos q, if_neg (by omega)]
    · rw [if_neg q]
      by_cases q' : v ≤ hi
      · rw [if_pos q', if_pos (by omega)]
      · rw [if_neg q', if_neg (by omega)]
  unfold F_X8_expectNumber F_X8_expectNumber_J24
  rw [a1, Option.bind_some, a4, k_fail, Option.bind_some]
  by_cases q : k = 3
  · rw [if_pos q, if_pos (Or.inl q)]; exact j (by omega)
  · rw [if_neg q]
    by_cases q' : k = 4
    · rw [if_pos q']
      by_cases q2 : lo < 0
      · rw [if_pos q2, if_pos (Or.inr ⟨q', q2⟩)]; exact j (by omega)
      · rw [if_neg q2, if_neg (by omega)]
    · rw [if_neg q', if_neg (by omega)]
theorem m_signed1 (lo hi : Int) : F_X12_signed N lo hi m = (if m.1 94 8 = 3 ∨ m.1 94 8 = 6 then (if lo ≤ m.1 94 9 ∧ m.1 94 9 ≤ hi then (F_X12_token N (upI m 94 22 (m.1 94 9))).bind (fun q3 => some (1, q3)) else some (0, wrg m 2)) else some (0, wrg m 1)) := by
  have j : F_X12_signed_J23 N lo hi m = (if lo ≤ m.1 94 9 ∧ m.1 94 9 ≤ hi then (F_X12_token N (upI m 94 22 (m.1 94 9))).bind (fun q3 => some (1, q3)) else some (0, wrg m 2)) := by
    unfold F_X12_signed_J23
    rw [m_isIn, Option.bind_some, m_wrong, Option.bind_some]
    by_cases q : lo ≤ m.1 94 9 ∧ m.1 94 9 ≤ hi
    · rw [if_pos q, if_neg (by decide), if_pos q]
    · rw [if_neg q, if_pos rfl, if_neg q]
  unfold F_X12_signed
  rw [j, m_wrong, Option.bind_some]
  by_cases q : m.1 94 8 = 3
  · rw [if_pos q, if_pos (Or.inl q)]
  · rw [if_neg q]
    by_cases q' : m.1 94 8 = 6
    · rw [if_pos q', if_pos (Or.inr q')]
    · rw [if_neg q', if_neg (by omega)]
/-- a number, read by both -/
def GNum (n : Nat) (C : Nat → Int) (lo hi : Int) (c m c' m' : Sto) : Prop := (∃ x, (lo ≤ x ∧ x ≤ hi) ∧ c'.1 1 6 = x ∧ m'.1 94 22 = x) ∧ c.1 1 3 ≤ c'.1 1 3 ∧ KC0 c c' ∧ KM0 m m' ∧ ∃ p s e k v w, MB c' m' n C p s e k v w
theorem n_signed (hN : BigN N) (T : TX c m b n C E L) {p s e : Nat} {k v w : Int} (M : MB c m n C p s e k v w) {lo hi : Int} (h : lo < 0) (h1 : -99999 ≤ lo) (h2 : hi ≤ 99999) : Two (F_X8_expectNumber N lo hi c) (F_X12_signed N lo hi m) b c m (GNum n C lo hi c m) := by
  obtain ⟨m1, m2, m3, m4, m5, m6⟩ := M
  obtain ⟨f1, f2, f3, f4, f5, f6, f7, f8⟩ := tok_f m2
  have k3 := kM_3 f4
  obtain ⟨c', a1, ⟨a2, a3⟩, a4, a5⟩ := k_num hN T.1 m2 m1 lo hi
  rw [a1, m_signed1, m5]
  by_cases q : k = 3 ∨ (k = 4 ∧ lo < 0)
  · rw [if_pos q, if_pos (show kM k = 3 ∨ kM k = 6 by omega), m6 (by omega)]
    by_cases q' : lo ≤ v ∧ v ≤ hi
    · have e1 : v = w := by have := f8 (by omega); omega
      rw [if_pos q', if_pos (show lo ≤ w ∧ w ≤ hi by omega)]
      obtain ⟨m', s', e', k', v', w', b1, b2, b3, b4⟩ := tokB (c := c') (m := upI m 94 22 w) hN (T.2.1.up (by decide)) (p := e) (by omega) a2 (by rw [up_ix (by decide)]; exact m3)
      rw [b1, Option.bind_some]
      refine ⟨c', m', Or.inl ⟨rfl, rfl, ⟨v, q', a4 (by omega), ?_⟩, by rw [a2, m1]; omega, a5, KM0.g22.tr b3, _, _, _, _, _, _, b2⟩⟩
      rw [b4, up_same, e1]
    · rw [if_neg q', if_neg (show ¬ (lo ≤ w ∧ w ≤ hi) by have := f8 (by omega); omega)]
      exact ⟨_, _, Or.inr ⟨rfl, rfl, bad_mk a5.fr FrM.rf (by rw [a3, m4])⟩⟩
  · rw [if_neg q, if_neg (show ¬ (kM k = 3 ∨ kM k = 6) by omega)]
    exact ⟨_, _, Or.inr ⟨rfl, rfl, bad_mk a5.fr FrM.rf (by rw [a3, m4])⟩⟩
theorem bind_eta (o : Option (Int × Sto)) : o.bind (fun q => some (q.1, q.2)) = o := by cases o <;> rfl
theorem n_number (hN : BigN N) (T : TX c m b n C E L) {p s e : Nat} {k v w : Int} (M : MB c m n C p s e k v w) {lo hi : Int} (h : 0 ≤ lo) (h2 : hi ≤ 99999) : Two (F_X8_expectNumber N lo hi c) (F_X12_number N lo hi m) b c m (GNum n C lo hi c m) := by
  obtain ⟨m1, m2, m3, m4, m5, m6⟩ := M
  obtain ⟨f1, f2, f3, f4, f5, f6, f7, f8⟩ := tok_f m2
  have k3 := kM_3 f4
  obtain ⟨c', a1, ⟨a2, a3⟩, a4, a5⟩ := k_num hN T.1 m2 m1 lo hi
  unfold F_X12_number
  rw [bind_eta, bind_eta, a1, m_signed1, m5, m_wrong]
  by_cases q : k = 3
  · rw [if_pos (show k = 3 ∨ (k = 4 ∧ lo < 0) from Or.inl q), if_pos (show kM k = 3 by omega), if_pos (show kM k = 3 ∨ kM k = 6 by omega), m6 (by omega)]
    by_cases q' : lo ≤ v ∧ v ≤ hi
    · have e1 : v = w := by have := f8 (by omega); omega
      rw [if_pos q', if_pos (show lo ≤ w ∧ w ≤ hi by omega)]
      obtain ⟨m', s', e', k', v', w', b1, b2, b3, b4⟩ := tokB (c := c') (m := upI m 94 22 w) hN (T.2.1.up (by decide)) (p := e) (by omega) a2 (by rw [up_ix (by decide)]; exact m3)
      rw [b1, Option.bind_some]
      refine ⟨c', m', Or.inl ⟨rfl, rfl, ⟨v, q', a4 (by omega), ?_⟩, by rw [a2, m1]; omega, a5, KM0.g22.tr b3, _, _, _, _, _, _, b2⟩⟩
      rw [b4, up_same, e1]
    · rw [if_neg q', if_neg (show ¬ (lo ≤ w ∧ w ≤ hi) by have := f8 (by omega); omega)]
      exact ⟨_, _, Or.inr ⟨rfl, rfl, bad_mk a5.fr FrM.rf (by rw [a3, m4])⟩⟩
  · rw [if_neg (show ¬ (k = 3 ∨ (k = 4 ∧ lo < 0)) by omega), if_neg (show ¬ kM k = 3 by omega)]
    exact ⟨_, _, Or.inr ⟨rfl, rfl, bad_mk a5.fr FrM.rf (by rw [a3, m4])⟩⟩
theorem m_nameAt (hN : BigN N) (V : Val E) (R : RdM m E) (x : Int) : F_X12_nameAt N x 24 (dm E : Int) m = some (fnd (fun k => decide (E.2 1 k = x)) (dm E) 0) := by
  have vz := V.sz
  unfold F_X12_nameAt
  refine loop_find (b := fun q nx3 => F_X12_nameAt_B3 N nx3 x 24 (dm E : Int) q m) (fin := fun k => some k) (bigN hN) (fun k nx hk => ?_) (fun nx => ?_)
  · show F_X12_nameAt_B3 N nx x 24 (dm E : Int) k m = _
    have i3 : ja 24 (jm 3 (k : Int)) = 24 + 3 * k := by rw [jm_eq ⟨by omega, by omega⟩, ja_eq ⟨by omega, by omega⟩]
    unfold F_X12_nameAt_B3
    rw [if_neg (by omega), i3, inb_in (by omega), (R.2.1 k (by omega) (by omega)).1, ja_1 (by omega) (by omega)]
    by_cases h : E.2 1 (k : Int) = x
    · rw [if_pos h, if_pos (by simp [h])]
    · rw [if_neg h, if_neg (by simp [h])]
  · show F_X12_nameAt_B3 N nx x 24 (dm E : Int) (dm E : Int) m = _
    unfold F_X12_nameAt_B3
    rw [if_pos (Int.le_refl _)]
/-- a member, read by both -/
def GMem (n : Nat) (E : Dk) (c m c' m' : Sto) : Prop := (∃ x : Int, (0 ≤ x ∧ x < dm E) ∧ c'.1 1 6 = x ∧ m'.1 94 22 = x) ∧ c.1 1 3 ≤ c'.1 1 3 ∧ KC0 c c' ∧ KM0 m m' ∧ (∃ p : Nat, p ≤ n ∧ c'.1 1 3 = p ∧ m'.1 94 7 = p) ∧ c'.1 1 5 = m'.1 94 10
theorem n_member (hN : BigN N) (T : TX c m b n C E L) {p : Nat} (hp : p ≤ n) (h1 : c.1 1 3 = p) (h2 : m.1 94 7 = p) : Two (F_X8_expectMember N b c) (F_X12_memberRead N m) b c m (GMem n E c m) := by
  obtain ⟨m', s, e, k, v, w, b1, ⟨m1, m2, m3, m4, m5, m6⟩, b3, b4⟩ := tokB (c := c) hN T.2.1 hp h1 h2
  obtain ⟨f1, f2, f3, f4, f5, f6, f7, f8⟩ := tok_f m2
  have k3 := kM_3 f4
  obtain ⟨c', a1, ⟨a2, a3, ak⟩, a4, az⟩ := k_next hN T.1 m2 m1
  have a5 : KC0 c c' := az
  have T' : TX c' m' b n C E L := T.k a5.k b3.k
  unfold F_X8_expectMember F_X12_memberRead F_X8_expectMember_J45 F_X12_memberRead_J51
  rw [a1, Option.bind_some, b1, Option.bind_some, ak, m5, m_wrong, Option.bind_some]
  by_cases q : k = 2
  · rw [if_pos q, if_pos (show kM k = 2 by omega), a4 (by omega), m6 (by omega), ← f7 q, T'.2.2.2.1.1.1, k_find hN T'.2.2.2.2.1 T'.2.2.1, m_nameAt hN T'.2.2.2.2.1 T'.2.2.2.1, Option.bind_some, Option.bind_some]
    have hr := fnd_R (f := fun k => decide (E.2 1 k = v)) (n := dm E) (k := 0) (Int.le_refl 0)
    generalize fnd (fun k => decide (E.2 1 k = v)) (dm E) 0 = r at hr ⊢
    rw [up_same, up_same, k_fail, m_wrong, Option.bind_some, Option.bind_some, if_pos (show (0 : Int) = 0 from rfl)]
    have c1 : KC0 c' (upI c' 1 6 r) := ⟨fun y z p => upI_ne (by omega), rfl⟩
    by_cases q' : 0 ≤ r
    · rw [if_pos q', if_pos q']
      exact ⟨_, _, Or.inl ⟨rfl, rfl, ⟨r, by omega, up_same, up_same⟩, by rw [up_ix (by decide), a2, h1]; omega, a5.tr c1, b3.tr KM0.g22, ⟨e, f3, by rw [up_ix (by decide)]; exact a2, by rw [up_ix (by decide)]; exact m3⟩, by rw [up_ix (by decide), up_ix (by decide), a3, m4]⟩⟩
    · rw [if_neg q', if_neg q', if_pos (show (0 : Int) = 0 from rfl)]
      exact ⟨_, _, Or.inr ⟨rfl, rfl, bad_mk (a5.tr c1).fr (b3.tr KM0.g22).fr (by rw [up_ix (by decide), up_ix (by decide), a3, m4])⟩⟩
  · rw [if_neg q, if_neg (show ¬ kM k = 2 by omega), k_fail, Option.bind_some]
    exact ⟨_, _, Or.inr ⟨rfl, rfl, bad_mk a5.fr b3.fr (by rw [a3, m4])⟩⟩
end LN
