/-! LONGS without wrap; BOUND and PRICE of the LINKS -/
theorem jla_eq {a b : Int} (h : inL (a + b)) : jla a b = a + b := by unfold jla; rw [← Int64.ofInt_add, t_ofL h]
theorem jlm_eq {a b : Int} (h : inL (a * b)) : jlm a b = a * b := by unfold jlm; rw [← Int64.ofInt_mul, t_ofL h]
theorem jlneg_eq {a : Int} (h : inL (-a)) : jlneg a = -a := by unfold jlneg; rw [← Int64.ofInt_neg, t_ofL h]
theorem jld_eq {a b : Int} (ha : inL a) (hb : inL b) (h0 : 0 ≤ a) (h1 : 0 < b) : jld a b = a / b := by
  unfold jld
  rw [Int64.toInt_div_of_ne_right _ _ (fun z => by have z := congrArg Int64.toInt z; rw [t_ofL hb] at z; have z : b = -1 := z; omega), t_ofL ha, t_ofL hb, Int.tdiv_eq_ediv_of_nonneg h0]
theorem jl2i_eq {a : Int} (ha : inR a) : jl2i a = a := by
  have h1 := ha.1
  have h2 := ha.2
  unfold jl2i
  rw [Int64.toInt_toInt32, t_ofL ⟨by omega, by omega⟩]
  exact Int.bmod_eq_of_le (by omega) (by omega)
theorem jlcmp_le {a b : Int} (ha : inL a) (hb : inL b) : 0 ≤ jlcmp a b ↔ b ≤ a := by
  unfold jlcmp lg_cmp
  have g : Int64.ofInt a > Int64.ofInt b ↔ b < a := by
    show Int64.ofInt b < Int64.ofInt a ↔ _
    rw [Int64.lt_iff_toInt_lt, t_ofL ha, t_ofL hb]
  have e : Int64.ofInt a = Int64.ofInt b ↔ a = b := by
    constructor
    · intro z
      have z := congrArg Int64.toInt z
      rwa [t_ofL ha, t_ofL hb] at z
    · intro z; rw [z]
  by_cases h : b < a
  · rw [if_pos (g.mpr h)]
    constructor
    · intro _; omega
    · intro _; decide
  · rw [if_neg (fun z => h (g.mp z))]
    by_cases h2 : a = b
    · rw [if_pos (e.mpr h2)]
      constructor
      · intro _; omega
      · intro _; decide
    · rw [if_neg (fun z => h2 (e.mp z))]
      constructor
      · intro z; exact absurd z (by decide)
      · intro _; omega
def mn (a b : Int) : Int := if a < b then a else b
def mx (a b : Int) : Int := if a < b then b else a
theorem jmin_mn {a b : Int} : jmin a b = mn a b := jmin_eq
theorem jmax_mx {a b : Int} : jmax a b = mx a b := rfl
theorem mn_le {a b : Int} : mn a b ≤ a ∧ mn a b ≤ b ∧ (mn a b = a ∨ mn a b = b) := by unfold mn; split <;> omega
theorem mx_le {a b : Int} : a ≤ mx a b ∧ b ≤ mx a b ∧ (mx a b = a ∨ mx a b = b) := by unfold mx; split <;> omega
/-- days in common of two PERIODS' members, the first days being F -/
def shd (D : Dk) (g : Int) (F : Int → Int) (i j : Int) : Int := dys D g (D.2 4 i) (D.2 4 j) (mx (F i) (F j)) (mn (D.2 6 i) (D.2 6 j))
def bnd (D : Dk) (g : Int) (F : Int → Int) (i j : Int) : Int := if D.2 4 i = D.2 4 j then mn (-D.2 7 i) (D.2 7 j) else mn (-D.2 7 i * shd D g F i j / (D.2 6 i - F i + 1)) (D.2 7 j * shd D g F i j / (D.2 6 j - F j + 1))
def lnk (D : Dk) (c : Int) (F : Int → Int) (i j : Int) : Bool := decide (0 ≤ i ∧ i < dp D ∧ 0 ≤ j ∧ j < dp D ∧ D.2 7 i < 0 ∧ 0 < D.2 7 j ∧ (D.2 4 i ≠ D.2 4 j ∨ (c = 1 ∧ D.2 6 i < F j)))
def FOk (D : Dk) (F : Int → Int) : Prop := ∀ p : Int, 0 ≤ p → p < dp D → 0 ≤ F p ∧ F p ≤ D.2 6 p
theorem Val.fok {D : Dk} (V : Val D) : FOk D (D.2 5) := fun p h0 h1 => ⟨(V.per h0 h1).2.1.1, (V.per h0 h1).2.1.2.1⟩
theorem lnk_iff {D : Dk} {c : Int} {F : Int → Int} {i j : Int} : lnk D c F i j = true ↔ (0 ≤ i ∧ i < dp D ∧ 0 ≤ j ∧ j < dp D ∧ D.2 7 i < 0 ∧ 0 < D.2 7 j ∧ (D.2 4 i ≠ D.2 4 j ∨ (c = 1 ∧ D.2 6 i < F j))) := decide_eq_true_iff
theorem div_le_self' {a b : Int} (h0 : 0 ≤ a) (h1 : 1 ≤ b) : 0 ≤ a / b ∧ a / b ≤ a := by
  refine ⟨Int.ediv_nonneg h0 (by omega), ?_⟩
  have := Int.ediv_le_self b h0
  omega
theorem mul_bd {a b x y : Int} (h0 : 0 ≤ a) (h1 : a ≤ x) (h2 : 0 ≤ b) (h3 : b ≤ y) : 0 ≤ a * b ∧ a * b ≤ x * y := ⟨Int.mul_nonneg h0 h2, Int.mul_le_mul h1 h3 h2 (by omega)⟩
theorem shd_bd {D : Dk} (V : Val D) {g : Int} {F : Int → Int} (hF : FOk D F) {i j : Int} (h0 : 0 ≤ i) (h1 : i < dp D) : 0 ≤ shd D g F i j ∧ shd D g F i j ≤ 1000 := by
  have f := hF i h0 h1
  have m := mx_le (a := F i) (b := F j)
  exact dys_bd V g _ _ _ _ (by omega)
theorem bnd_bd {D : Dk} (V : Val D) {g : Int} {F : Int → Int} (hF : FOk D F) {i j : Int} (h0 : 0 ≤ i) (h1 : i < dp D) (h2 : 0 ≤ j) (h3 : j < dp D) (r1 : D.2 7 i < 0) (r2 : 0 < D.2 7 j) : 0 ≤ bnd D g F i j ∧ bnd D g F i j ≤ 99999000 ∧ 0 ≤ -D.2 7 i * shd D g F i j ∧ -D.2 7 i * shd D g F i j ≤ 99999000 ∧ 0 ≤ D.2 7 j * shd D g F i j ∧ D.2 7 j * shd D g F i j ≤ 99999000 := by
  have f := hF i h0 h1
  have f2 := hF j h2 h3
  have p := (V.per h0 h1).2.2
  have p2 := (V.per h2 h3).2.2
  have s := shd_bd (g := g) V hF (j := j) h0 h1
  have a := mul_bd (a := -D.2 7 i) (b := shd D g F i j) (x := 99999) (y := 1000) (by omega) (by omega) s.1 s.2
  have b := mul_bd (a := D.2 7 j) (b := shd D g F i j) (x := 99999) (y := 1000) (by omega) (by omega) s.1 s.2
  have d1 := div_le_self' (a := -D.2 7 i * shd D g F i j) (b := D.2 6 i - F i + 1) a.1 (by omega)
  have d2 := div_le_self' (a := D.2 7 j * shd D g F i j) (b := D.2 6 j - F j + 1) b.1 (by omega)
  refine ⟨?_, ?_, a.1, by omega, b.1, by omega⟩
  · unfold bnd
    split
    · have := mn_le (a := -D.2 7 i) (b := D.2 7 j); omega
    · have := mn_le (a := -D.2 7 i * shd D g F i j / (D.2 6 i - F i + 1)) (b := D.2 7 j * shd D g F i j / (D.2 6 j - F j + 1)); omega
  · unfold bnd
    split
    · have := mn_le (a := -D.2 7 i) (b := D.2 7 j); omega
    · have := mn_le (a := -D.2 7 i * shd D g F i j / (D.2 6 i - F i + 1)) (b := D.2 7 j * shd D g F i j / (D.2 6 j - F j + 1)); omega
def NetR (σ : Sto) (t : Nat) (D : Dk) (g c : Int) (F : Int → Int) : Prop := ∀ i j : Int, 0 ≤ i → i < dp D → 0 ≤ j → j < dp D → σ.1 (t + 1) (12 * i + j) = (if lnk D c F i j = true then bnd D g F i j else -1) ∧ σ.1 (t + 2) (12 * i + j) = (if lnk D c F i j = true then prc D i j else 0)
theorem NetR.cg {σ σ' : Sto} {t : Nat} {D : Dk} {g c : Int} {F : Int → Int} (h : NetR σ t D g c F) (e : ∀ a j, a = t + 1 ∨ a = t + 2 → σ'.1 a j = σ.1 a j) : NetR σ' t D g c F := fun i j a b x y => by
  rw [e (t + 1) _ (Or.inl rfl), e (t + 2) _ (Or.inr rfl)]; exact h i j a b x y
section NET
variable {N : Nat} {D : Dk} {σ : Sto}
theorem k_boundOf (hN : BigN N) (V : Val D) {b v f : Nat} {g c : Int} {F : Int → Int} (hF : FOk D F) (B : BokR σ b D) (K : KinR σ v D g) (hf : ∀ p : Int, 0 ≤ p → p < dp D → σ.1 f p = F p) {i j : Int} (h0 : 0 ≤ i) (h1 : i < dp D) (h2 : 0 ≤ j) (h3 : j < dp D) (r1 : D.2 7 i < 0) (r2 : 0 < D.2 7 j) : F_X6_boundOf N b v c f i j σ = some (if lnk D c F i j = true then bnd D g F i j else -1) := by
  have vz := V.sz
  have w := V.per h0 h1
  have w2 := V.per h2 h3
  have q := bnd_bd (g := g) V hF h0 h1 h2 h3 r1 r2
  have f1 := hF i h0 h1
  have f2 := hF j h2 h3
  have m := mx_le (a := F i) (b := F j)
  have m2 := mn_le (a := D.2 6 i) (b := D.2 6 j)
  have dd := k_days hN V K (a := (D.2 4 i).toNat) (b := (D.2 4 j).toNat) (by omega) (by omega) (fr := mx (F i) (F j)) (to := mn (D.2 6 i) (D.2 6 j)) (by omega) (by omega) (by omega) (by omega)
  rw [Int.toNat_of_nonneg w.1.1, Int.toNat_of_nonneg w2.1.1] at dd
  unfold F_X6_boundOf F_X6_boundOf_J59
  obtain ⟨e1, e2, e3, e4⟩ := B.2.2.1 i h0 h1
  obtain ⟨g1, g2, g3, g4⟩ := B.2.2.1 j h2 h3
  rw [inb_in (by omega), inb_in (by omega), k_isOne V B h0 h1 h2 h3, e1, e3, e4, g1, g3, g4, hf i h0 h1, hf j h2 h3, jmin_mn, jmax_mx, dd, js_eq ⟨by omega, by omega⟩, js_eq ⟨by omega, by omega⟩, ja_eq (a := D.2 6 i - F i) (b := 1) ⟨by omega, by omega⟩, ja_eq (a := D.2 6 j - F j) (b := 1) ⟨by omega, by omega⟩, jneg_eq ⟨by omega, by omega⟩]
  have x1 : jmax 1 (D.2 6 i - F i + 1) = D.2 6 i - F i + 1 := by unfold jmax; split <;> omega
  have x2 : jmax 1 (D.2 6 j - F j + 1) = D.2 6 j - F j + 1 := by unfold jmax; split <;> omega
  rw [x1, x2]
  show (if (if D.2 4 i = D.2 4 j then (1 : Int) else 0) = 0 then (grd _ _ (grd _ _ (some (jmin (jdiv (jm (-D.2 7 i) (shd D g F i j)) _) (jdiv (jm (D.2 7 j) (shd D g F i j)) _))))) else _) = _
  by_cases h : D.2 4 i = D.2 4 j
  · rw [if_pos h, if_neg (by decide)]
    by_cases hc : c = 1
    · rw [if_pos hc]
      by_cases hl : F j ≤ D.2 6 i
      · rw [if_pos hl, if_neg (fun z => by have z := lnk_iff.mp z; omega)]
      · rw [if_neg hl, if_pos (lnk_iff.mpr ⟨h0, h1, h2, h3, r1, r2, Or.inr ⟨hc, by omega⟩⟩), jmin_mn]
        unfold bnd
        rw [if_pos h]
    · rw [if_neg hc, if_neg (fun z => by have z := lnk_iff.mp z; omega)]
  · rw [if_neg h, if_pos rfl, grd_in (by omega), grd_in (by omega), jm_eq ⟨by omega, by omega⟩, jm_eq ⟨by omega, by omega⟩, jdiv_eq ⟨by omega, by omega⟩ ⟨by omega, by omega⟩ q.2.2.1 (by omega), jdiv_eq ⟨by omega, by omega⟩ ⟨by omega, by omega⟩ q.2.2.2.2.1 (by omega), jmin_mn, if_pos (lnk_iff.mpr ⟨h0, h1, h2, h3, r1, r2, Or.inl h⟩)]
    unfold bnd
    rw [if_neg h]
theorem k_netIn (hN : BigN N) (V : Val D) {t b v f : Nat} {g c : Int} {F : Int → Int} (hF : FOk D F) (ht : 55 ≤ t) (hb : b ≤ 32) (hv : v + 2 < t ∨ t + 2 < v) (hft : f < t ∨ t + 2 < f) (B : BokR σ b D) (K : KinR σ v D g) (hf : ∀ p : Int, 0 ≤ p → p < dp D → σ.1 f p = F p) {i j : Int} (h0 : 0 ≤ i) (h1 : i < dp D) (h2 : 0 ≤ j) (h3 : j < dp D) : ∃ σ', (∀ x nx, F_X6_fill_B15 N x nx t b v c f i j σ = nx (j + 1, σ')) ∧ (∀ a y, ¬ ((a = t + 1 ∨ a = t + 2) ∧ y = 12 * i + j) → σ'.1 a y = σ.1 a y) ∧ σ'.1 (t + 1) (12 * i + j) = (if lnk D c F i j = true then bnd D g F i j else -1) ∧ σ'.1 (t + 2) (12 * i + j) = (if lnk D c F i j = true then prc D i j else 0) := by
  have vz := V.sz
  have ix : ja (jm i 12) j = 12 * i + j := ix12 (by omega) (by omega) (by omega) (by omega)
  have u1 : ∀ (τ : Sto) (x y : Int) (a : Nat) (z : Int), ¬ ((a = t + 1 ∨ a = t + 2) ∧ z = 12 * i + j) → (upI (upI τ (t + 1) (12 * i + j) x) (t + 2) (12 * i + j) y).1 a z = τ.1 a z := fun τ x y a z h => by
    rw [upI_ne (by omega), upI_ne (by omega)]
  have B1 : BokR (upI (upI σ (t + 1) (12 * i + j) (-1)) (t + 2) (12 * i + j) 0) b D := B.cg (fun a z x y => u1 σ _ _ a z (by omega))
  have K1 : KinR (upI (upI σ (t + 1) (12 * i + j) (-1)) (t + 2) (12 * i + j) 0) v D g := K.cg (fun a z x y => u1 σ _ _ a z (by omega))
  have e4 := (B1.2.2.1 i h0 h1).2.2.2
  have e5 := (B1.2.2.1 j h2 h3).2.2.2
  by_cases r1 : D.2 7 i < 0
  · by_cases r2 : 0 < D.2 7 j
    · have bo := k_boundOf (c := c) hN V hF B1 K1 (f := f) (fun p x y => (u1 σ _ _ f p (by omega)).trans (hf p x y)) h0 h1 h2 h3 r1 r2
      refine ⟨upI (upI (upI (upI σ (t + 1) (12 * i + j) (-1)) (t + 2) (12 * i + j) 0) (t + 1) (12 * i + j) (if lnk D c F i j = true then bnd D g F i j else -1)) (t + 2) (12 * i + j) (prc D i j), fun x nx => ?_, fun a y h => ?_, ?_, ?_⟩
      · unfold F_X6_fill_B15 F_X6_fill_J104
        rw [B.1.2.1, if_neg (by omega), ix, inb_in (by omega), inb_in (by omega), e4, if_neg (by omega), inb_in (by omega), e5, if_neg (by omega), bo]
        show (F_X0_priceOf N b i j _).bind _ = _
        rw [k_priceOf V (B1.cg (fun a z x y => upI_ne (by omega))) h0 h1 h2 h3, ja_1 (by omega) (by omega)]
        rfl
      · rw [u1 _ _ _ a y h, u1 _ _ _ a y h]
      · rw [up_pl (by omega), up_same]
      · rw [up_same]
        by_cases l : lnk D c F i j = true
        · rw [if_pos l]
        · rw [if_neg l]
          unfold prc
          rw [if_pos]
          by_cases e : D.2 4 i = D.2 4 j
          · exact e
          · exact absurd (lnk_iff.mpr ⟨h0, h1, h2, h3, r1, r2, Or.inl e⟩) l
    · refine ⟨upI (upI σ (t + 1) (12 * i + j) (-1)) (t + 2) (12 * i + j) 0, fun x nx => ?_, fun a y h => u1 _ _ _ a y h, ?_, ?_⟩
      · unfold F_X6_fill_B15 F_X6_fill_J104
        rw [B.1.2.1, if_neg (by omega), ix, inb_in (by omega), inb_in (by omega), e4, if_neg (by omega), inb_in (by omega), e5, if_pos (by omega), ja_1 (by omega) (by omega)]
      · rw [up_pl (by omega), up_same, if_neg (fun z => by have z := lnk_iff.mp z; omega)]
      · rw [up_same, if_neg (fun z => by have z := lnk_iff.mp z; omega)]
  · refine ⟨upI (upI σ (t + 1) (12 * i + j) (-1)) (t + 2) (12 * i + j) 0, fun x nx => ?_, fun a y h => u1 _ _ _ a y h, ?_, ?_⟩
    · unfold F_X6_fill_B15 F_X6_fill_J104
      rw [B.1.2.1, if_neg (by omega), ix, inb_in (by omega), inb_in (by omega), e4, if_pos (by omega), ja_1 (by omega) (by omega)]
    · rw [up_pl (by omega), up_same, if_neg (fun z => by have z := lnk_iff.mp z; omega)]
    · rw [up_same, if_neg (fun z => by have z := lnk_iff.mp z; omega)]
theorem k_net (hN : BigN N) (V : Val D) {t b v f : Nat} {g c : Int} {F : Int → Int} (hF : FOk D F) (ht : 55 ≤ t) (hb : b ≤ 32) (hv : v + 2 < t ∨ t + 2 < v) (hft : f < t ∨ t + 2 < f) (B : BokR σ b D) (K : KinR σ v D g) (hf : ∀ p : Int, 0 ≤ p → p < dp D → σ.1 f p = F p) : ∃ σ', F_X6_fill N t b v c f σ = some σ' ∧ NetR σ' t D g c F := by
  have vz := V.sz
  unfold F_X6_fill
  refine Exists.elim (loop_A (b := fun q nx => F_X6_fill_B3 N nx t b v c f q.1 q.2) (fin := fun s => some s.2) (N := N) (s0 := ((0 : Int), σ)) (fun k s => s.1 = k ∧ (∀ a j, a ≠ t + 1 → a ≠ t + 2 → s.2.1 a j = σ.1 a j) ∧ ∀ i j : Int, 0 ≤ i → i < k → 0 ≤ j → j < dp D → s.2.1 (t + 1) (12 * i + j) = (if lnk D c F i j = true then bnd D g F i j else -1) ∧ s.2.1 (t + 2) (12 * i + j) = (if lnk D c F i j = true then prc D i j else 0)) (dp D) (bigN hN) ⟨rfl, fun _ _ _ _ => rfl, fun i j x y => by omega⟩ (fun k s hk hI => ?_) (fun s hI nx => ?_)) (fun s hs => ?_)
  rotate_right
  · obtain ⟨⟨j1, j2, j3⟩, hx⟩ := hs
    exact ⟨s.2, hx, fun i j a b c d => j3 i j a (by omega) c d⟩
  · obtain ⟨u, τ⟩ := s
    obtain ⟨rfl, i2, i3⟩ := hI
    refine Exists.elim (loop_X (b := fun x q nx => F_X6_fill_B15 N x nx t b v c f (k : Int) q.1 q.2) (fin := fun x s => x ((k : Int) + 1, s.2)) (N := N) (s0 := ((0 : Int), τ)) (fun m s => s.1 = m ∧ (∀ a j, a ≠ t + 1 → a ≠ t + 2 → s.2.1 a j = σ.1 a j) ∧ (∀ a j, j < 12 * (k : Int) → s.2.1 a j = τ.1 a j) ∧ ∀ j : Int, 0 ≤ j → j < m → s.2.1 (t + 1) (12 * k + j) = (if lnk D c F k j = true then bnd D g F k j else -1) ∧ s.2.1 (t + 2) (12 * k + j) = (if lnk D c F k j = true then prc D k j else 0)) (dp D) (bigN hN) ⟨rfl, i2, fun _ _ _ => rfl, fun j x y => by omega⟩ (fun m s hm hI => ?_) (fun s hI x nx => ?_)) (fun s hs => ?_)
    rotate_right
    · obtain ⟨⟨l1, l2, l3, l4⟩, hx⟩ := hs
      refine ⟨((k : Int) + 1, s.2), ⟨by show (k : Int) + 1 = _; omega, l2, fun i j a b c d => ?_⟩, fun nx => ?_⟩
      · by_cases e : i = k
        · subst e; exact l4 j c d
        · show s.2.1 _ _ = _ ∧ s.2.1 _ _ = _
          rw [l3 _ _ (by omega), l3 _ _ (by omega)]; exact i3 i j a (by omega) c d
      · show F_X6_fill_B3 N nx t b v c f (k : Int) τ = _
        unfold F_X6_fill_B3
        rw [i2 b 9 (by omega) (by omega), B.1.2.1, if_neg (by omega)]
        exact hx nx
    · obtain ⟨u, τ'⟩ := s
      obtain ⟨rfl, l2, l3, l4⟩ := hI
      obtain ⟨τ2, q1, q2, q3, q4⟩ := k_netIn (σ := τ') (c := c) (i := k) (j := m) hN V hF ht hb hv hft (B.cg (fun a z x y => l2 a z (by omega) (by omega))) (K.cg (fun a z x y => l2 a z (by omega) (by omega))) (fun p x y => (l2 f p (by omega) (by omega)).trans (hf p x y)) (by omega) (by omega) (by omega) (by omega)
      refine ⟨((m : Int) + 1, τ2), ⟨by show (m : Int) + 1 = _; omega, fun a j x y => ?_, fun a j h => ?_, fun j x y => ?_⟩, q1⟩
      · exact (q2 a j (by omega)).trans (l2 a j x y)
      · exact (q2 a j (by omega)).trans (l3 a j h)
      · by_cases e : j = m
        · subst e; exact ⟨q3, q4⟩
        · show τ2.1 _ _ = _ ∧ τ2.1 _ _ = _
          rw [q2 _ _ (by omega), q2 _ _ (by omega)]; exact l4 j x (by omega)
    · obtain ⟨u, τ'⟩ := s
      obtain ⟨rfl, l2, -⟩ := hI
      show F_X6_fill_B15 N x nx t b v c f (k : Int) (dp D : Int) τ' = _
      unfold F_X6_fill_B15 F_X6_fill_J110
      rw [l2 b 9 (by omega) (by omega), B.1.2.1, if_pos (Int.le_refl _), ja_1 (by omega) (by omega)]
  · obtain ⟨u, τ⟩ := s
    obtain ⟨rfl, i2, -⟩ := hI
    show F_X6_fill_B3 N nx t b v c f (dp D : Int) τ = _
    unfold F_X6_fill_B3
    rw [i2 b 9 (by omega) (by omega), B.1.2.1, if_pos (Int.le_refl _)]
/-! the reference -/
theorem m_shared (hN : BigN N) (V : Val D) {g : Int} (M : ModR σ D) (S : StrM σ D g) {i j : Int} (h0 : 0 ≤ i) (h1 : i < dp D) (h2 : 0 ≤ j) (h3 : j < dp D) : F_X12_sharedOf N i j σ = some (shd D g (D.2 5) i j) := by
  have w := V.per h0 h1
  have w2 := V.per h2 h3
  have m := mx_le (a := D.2 5 i) (b := D.2 5 j)
  have m2 := mn_le (a := D.2 6 i) (b := D.2 6 j)
  have dd := m_days hN V S (a := (D.2 4 i).toNat) (b := (D.2 4 j).toNat) (by omega) (by omega) (fr := mx (D.2 5 i) (D.2 5 j)) (to := mn (D.2 6 i) (D.2 6 j)) (by omega) (by omega) (by omega) (by omega)
  rw [Int.toNat_of_nonneg w.1.1, Int.toNat_of_nonneg w2.1.1] at dd
  have x1 : ∀ k, F_X12_sharedOf_J26 N i j k σ = F_X12_sharedOf_J53 N i j k (mn (D.2 6 i) (D.2 6 j)) σ := by
    intro k
    unfold F_X12_sharedOf_J26
    rw [m_lastDay M V h0 h1, m_lastDay M V h2 h3]
    show (if D.2 6 j ≤ D.2 6 i then F_X12_sharedOf_J53 N i j k (D.2 6 j) σ else F_X12_sharedOf_J53 N i j k (D.2 6 i) σ) = _
    unfold mn
    by_cases h : D.2 6 j ≤ D.2 6 i
    · rw [if_pos h, if_neg (by omega)]
    · rw [if_neg h, if_pos (by omega)]
  have x2 : F_X12_sharedOf N i j σ = F_X12_sharedOf_J26 N i j (mx (D.2 5 i) (D.2 5 j)) σ := by
    unfold F_X12_sharedOf
    rw [m_firstDay M V h0 h1, m_firstDay M V h2 h3]
    show (if D.2 5 i ≤ D.2 5 j then F_X12_sharedOf_J26 N i j (D.2 5 j) σ else F_X12_sharedOf_J26 N i j (D.2 5 i) σ) = _
    unfold mx
    by_cases h : D.2 5 i < D.2 5 j
    · rw [if_pos (by omega), if_pos h]
    · rw [if_neg h]
      by_cases e : D.2 5 i ≤ D.2 5 j
      · rw [if_pos e, show D.2 5 j = D.2 5 i by omega]
      · rw [if_neg e]
  rw [x2, x1]
  unfold F_X12_sharedOf_J53
  rw [m_memberOf M V h0 h1, m_memberOf M V h2 h3]
  show (F_X12_daysOf N (D.2 4 i) (D.2 4 j) _ _ σ).bind _ = _
  rw [dd]; rfl
theorem m_isLink (M : ModR σ D) (V : Val D) (i j : Int) : F_X12_isLink N i j σ = some (if lnk D (D.2 0 3) (D.2 5) i j = true then 1 else 0) := by
  unfold F_X12_isLink F_X12_isLink_J66 F_X12_isLink_J62
  rw [m_isPeriod M, m_isPeriod M]
  show (if (if 0 ≤ i ∧ i < dp D then (1 : Int) else 0) = 0 then _ else (if (if 0 ≤ j ∧ j < dp D then (1 : Int) else 0) = 0 then _ else _)) = _
  by_cases h1 : 0 ≤ i ∧ i < dp D
  · rw [if_pos h1, if_neg (by decide)]
    by_cases h2 : 0 ≤ j ∧ j < dp D
    · rw [if_pos h2, if_neg (by decide), m_result M V h1.1 h1.2, m_result M V h2.1 h2.2, m_isCarry M V h1.1 h1.2 h2.1 h2.2, m_firstDay M V h2.1 h2.2, m_lastDay M V h1.1 h1.2, M.1.1.2.2.2.2.2]
      show (if 0 ≤ D.2 7 i then _ else (if D.2 7 j ≤ 0 then _ else (if (if D.2 4 i = D.2 4 j then (1 : Int) else 0) = 0 then _ else (if D.2 0 3 = 1 then (if D.2 5 j ≤ D.2 6 i then _ else _) else _)))) = _
      by_cases r1 : 0 ≤ D.2 7 i
      · rw [if_pos r1, if_neg (fun z => by have z := lnk_iff.mp z; omega)]
      · rw [if_neg r1]
        by_cases r2 : D.2 7 j ≤ 0
        · rw [if_pos r2, if_neg (fun z => by have z := lnk_iff.mp z; omega)]
        · rw [if_neg r2]
          by_cases o : D.2 4 i = D.2 4 j
          · rw [if_pos o, if_neg (by decide)]
            by_cases c : D.2 0 3 = 1
            · rw [if_pos c]
              by_cases f : D.2 5 j ≤ D.2 6 i
              · rw [if_pos f, if_neg (fun z => by have z := lnk_iff.mp z; omega)]
              · rw [if_neg f, if_pos (lnk_iff.mpr ⟨h1.1, h1.2, h2.1, h2.2, by omega, by omega, Or.inr ⟨c, by omega⟩⟩)]
            · rw [if_neg c, if_neg (fun z => by have z := lnk_iff.mp z; omega)]
          · rw [if_neg o, if_pos rfl, if_pos (lnk_iff.mpr ⟨h1.1, h1.2, h2.1, h2.2, by omega, by omega, Or.inl o⟩)]
    · rw [if_neg h2, if_pos rfl, if_neg (fun z => by have z := lnk_iff.mp z; omega)]
  · rw [if_neg h1, if_pos rfl, if_neg (fun z => by have z := lnk_iff.mp z; omega)]
theorem m_boundOf (hN : BigN N) (V : Val D) {g : Int} (M : ModR σ D) (S : StrM σ D g) {i j : Int} (h0 : 0 ≤ i) (h1 : i < dp D) (h2 : 0 ≤ j) (h3 : j < dp D) (r1 : D.2 7 i < 0) (r2 : 0 < D.2 7 j) : F_X12_boundOf N i j σ = some (bnd D g (D.2 5) i j) := by
  have w := V.per h0 h1
  have w2 := V.per h2 h3
  have q := bnd_bd (g := g) V V.fok h0 h1 h2 h3 r1 r2
  have d1 := div_le_self' (a := -D.2 7 i * shd D g (D.2 5) i j) (b := D.2 6 i - D.2 5 i + 1) q.2.2.1 (by omega)
  have d2 := div_le_self' (a := D.2 7 j * shd D g (D.2 5) i j) (b := D.2 6 j - D.2 5 j + 1) q.2.2.2.2.1 (by omega)
  unfold F_X12_boundOf
  rw [m_isCarry M V h0 h1 h2 h3, m_shared hN V M S h0 h1 h2 h3, m_result M V h0 h1, m_result M V h2 h3, m_firstDay M V h0 h1, m_firstDay M V h2 h3, m_lastDay M V h0 h1, m_lastDay M V h2 h3]
  show (if (if D.2 4 i = D.2 4 j then (1 : Int) else 0) = 0 then (grd (¬ (ja (js (D.2 6 i) (D.2 5 i)) 1) = 0) _ (grd (¬ (ja (js (D.2 6 j) (D.2 5 j)) 1) = 0) _ (if 0 ≤ (jlcmp (jld (jlm (jlneg (D.2 7 i)) (shd D g (D.2 5) i j)) (ja (js (D.2 6 i) (D.2 5 i)) 1)) (jld (jlm (D.2 7 j) (shd D g (D.2 5) i j)) (ja (js (D.2 6 j) (D.2 5 j)) 1))) then (some (jl2i (jld (jlm (D.2 7 j) (shd D g (D.2 5) i j)) (ja (js (D.2 6 j) (D.2 5 j)) 1)))) else (some (jl2i (jld (jlm (jlneg (D.2 7 i)) (shd D g (D.2 5) i j)) (ja (js (D.2 6 i) (D.2 5 i)) 1)))))))
    else (if D.2 7 j ≤ jneg (D.2 7 i) then some (D.2 7 j) else some (jneg (D.2 7 i)))) = _
  rw [js_eq ⟨by omega, by omega⟩, js_eq ⟨by omega, by omega⟩, ja_eq (a := D.2 6 i - D.2 5 i) (b := 1) ⟨by omega, by omega⟩, ja_eq (a := D.2 6 j - D.2 5 j) (b := 1) ⟨by omega, by omega⟩, jneg_eq ⟨by omega, by omega⟩, jlneg_eq ⟨by omega, by omega⟩, jlm_eq ⟨by omega, by omega⟩, jlm_eq ⟨by omega, by omega⟩, jld_eq ⟨by omega, by omega⟩ ⟨by omega, by omega⟩ q.2.2.1 (by omega), jld_eq ⟨by omega, by omega⟩ ⟨by omega, by omega⟩ q.2.2.2.2.1 (by omega)]
  unfold bnd mn
  by_cases h : D.2 4 i = D.2 4 j
  · rw [if_pos h, if_neg (by decide), if_pos h]
    by_cases c : D.2 7 j ≤ -D.2 7 i
    · rw [if_pos c, if_neg (by omega)]
    · rw [if_neg c, if_pos (by omega)]
  · rw [if_neg h, if_pos rfl, grd_in (by omega), grd_in (by omega), if_neg h, jl2i_eq ⟨by omega, by omega⟩, jl2i_eq ⟨by omega, by omega⟩]
    have c := jlcmp_le (a := -D.2 7 i * shd D g (D.2 5) i j / (D.2 6 i - D.2 5 i + 1)) (b := D.2 7 j * shd D g (D.2 5) i j / (D.2 6 j - D.2 5 j + 1)) ⟨by omega, by omega⟩ ⟨by omega, by omega⟩
    by_cases z : D.2 7 j * shd D g (D.2 5) i j / (D.2 6 j - D.2 5 j + 1) ≤ -D.2 7 i * shd D g (D.2 5) i j / (D.2 6 i - D.2 5 i + 1)
    · rw [if_pos (c.mpr z), if_neg (by omega)]
    · rw [if_neg (fun y => z (c.mp y)), if_pos (by omega)]
theorem m_claimedOf (hN : BigN N) (M : ModR σ D) (V : Val D) (p : Int) : F_X12_claimedOf N p σ = some (takOf D p) := by
  have v := V.sz
  unfold F_X12_claimedOf takOf
  refine loop_sum (b := fun q nx4 => F_X12_claimedOf_B4 N nx4 p q.1 q.2 σ) (fin := fun k => some k) 99999 (bigN hN) (by omega) (by omega) (by omega) (fun k hk => by have := takF_bd V p k hk; omega) (fun k a nx hk hr ha => ?_) (fun a nx => ?_)
  · show F_X12_claimedOf_B4 N nx p a (k : Int) σ = _
    obtain ⟨e1, e2, e3⟩ := m_ofc (N := N) M V (k := k) (by omega) (by omega)
    unfold F_X12_claimedOf_B4 F_X12_claimedOf_J43 F_X12_claimedOf_J55
    rw [m_of0 M, e1, e2, e3, ja_1 (k := (k : Int)) (by omega) (by omega)]
    show (if (dc D : Int) ≤ k then _ else (if D.2 12 k = p then nx (ja a (D.2 14 k), _) else (if D.2 13 k = p then nx (ja a (D.2 14 k), _) else nx (ja a 0, _)))) = _
    rw [if_neg (by omega)]
    unfold takF at hr ⊢
    by_cases h : D.2 12 k = p
    · rw [if_pos (Or.inl h)] at hr
      rw [if_pos h, if_pos (Or.inl h), ja_eq hr]
    · rw [if_neg h]
      by_cases h2 : D.2 13 k = p
      · rw [if_pos (Or.inr h2)] at hr
        rw [if_pos h2, if_pos (Or.inr h2), ja_eq hr]
      · rw [if_neg h2, if_neg (by simp [h, h2]), ja_eq (by rw [Int.add_zero]; exact ha)]
  · show F_X12_claimedOf_B4 N nx p a (dc D : Int) σ = _
    unfold F_X12_claimedOf_B4
    rw [m_of0 M]
    show (if (dc D : Int) ≤ (dc D : Int) then _ else _) = _
    rw [if_pos (Int.le_refl _)]
theorem m_claimedBy (hN : BigN N) (M : ModR σ D) (V : Val D) (i j : Int) : F_X12_claimedBy N i j σ = some (takOn D i j) := by
  have v := V.sz
  unfold F_X12_claimedBy takOn
  refine loop_sum (b := fun q nx4 => F_X12_claimedBy_B5 N nx4 i j q.1 q.2 σ) (fin := fun k => some k) 99999 (bigN hN) (by omega) (by omega) (by omega) (fun k hk => by have := tonF_bd V i j k hk; omega) (fun k a nx hk hr ha => ?_) (fun a nx => ?_)
  · show F_X12_claimedBy_B5 N nx i j a (k : Int) σ = _
    obtain ⟨e1, e2, e3⟩ := m_ofc (N := N) M V (k := k) (by omega) (by omega)
    unfold F_X12_claimedBy_B5 F_X12_claimedBy_J61 F_X12_claimedBy_J62
    rw [m_of0 M, e1, e2, e3, ja_1 (k := (k : Int)) (by omega) (by omega)]
    show (if (dc D : Int) ≤ k then _ else (if D.2 12 k = i then (if D.2 13 k = j then nx (ja a (D.2 14 k), _) else nx (ja a 0, _)) else nx (ja a 0, _))) = _
    rw [if_neg (by omega), ja0 ha]
    unfold tonF at hr ⊢
    by_cases h : D.2 12 k = i
    · rw [if_pos h]
      by_cases h2 : D.2 13 k = j
      · rw [if_pos ⟨h, h2⟩] at hr
        rw [if_pos h2, if_pos ⟨h, h2⟩, ja_eq hr]
      · rw [if_neg h2, if_neg (by simp [h2]), Int.add_zero]
    · rw [if_neg h, if_neg (by simp [h]), Int.add_zero]
  · show F_X12_claimedBy_B5 N nx i j a (dc D : Int) σ = _
    unfold F_X12_claimedBy_B5
    rw [m_of0 M]
    show (if (dc D : Int) ≤ (dc D : Int) then _ else _) = _
    rw [if_pos (Int.le_refl _)]
theorem rabs_bd (V : Val D) {p : Int} (h0 : 0 ≤ p) (h1 : p < dp D) : 0 ≤ rabs (D.2 7 p) ∧ rabs (D.2 7 p) ≤ 99999 := by
  have w := (V.per h0 h1).2.2
  unfold rabs; split <;> omega
theorem opn_bd (V : Val D) {p : Int} (h0 : 0 ≤ p) (h1 : p < dp D) : -2999970 ≤ opn D p ∧ opn D p ≤ 99999 := by
  have w := rabs_bd V h0 h1
  have t := takOf_bd V p
  unfold opn; omega
theorem m_openOf (hN : BigN N) (M : ModR σ D) (V : Val D) {p : Int} (h0 : 0 ≤ p) (h1 : p < dp D) : F_X12_openOf N p σ = some (opn D p) := by
  have w := (V.per h0 h1).2.2
  have t := takOf_bd V p
  unfold F_X12_openOf F_X12_openOf_J22 opn rabs
  rw [m_result M V h0 h1, m_claimedOf hN M V]
  show (if 0 ≤ D.2 7 p then some (js (D.2 7 p) (takOf D p)) else some (js (jneg (D.2 7 p)) (takOf D p))) = _
  rw [jneg_eq ⟨by omega, by omega⟩]
  by_cases h : 0 ≤ D.2 7 p
  · rw [if_pos h, if_neg (by omega), js_eq ⟨by omega, by omega⟩]
  · rw [if_neg h, if_pos (by omega), js_eq ⟨by omega, by omega⟩]
end NET
