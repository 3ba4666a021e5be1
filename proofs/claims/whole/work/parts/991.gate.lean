/-! A HIGHER GATE never gives more -/
section CUT
variable {n : Nat} {sd : Nat → Int} {c c' pr : Nat → Nat → Int} {l0 : Nat → Int}
theorem mono_total (O : FOK n sd c pr) (O' : FOK n sd c' pr) (hc : ∀ i j, c i j ≤ c' i j) {m m' : Nat} (R : REnd n sd c pr (fun _ _ => 0, l0) m) (R' : REnd n sd c' pr (fun _ _ => 0, l0) m') : tt n sd c pr (fun _ _ => 0, l0) m ≤ tt n sd c' pr (fun _ _ => 0, l0) m' := by
  rw [← tt_s2 R.1 m (Nat.le_refl _), ← tt_s2 R'.1 m' (Nat.le_refl _)]
  have S := R.1.1 m (Nat.le_refl _)
  have S' := R'.1.1 m' (Nat.le_refl _)
  have C := cons_sq R.1 m (Nat.le_refl _)
  have C' := cons_sq R'.1 m' (Nat.le_refl _)
  have no := R'.2
  generalize sq n sd c pr (fun _ _ => 0, l0) m = s at S C
  generalize sq n sd c' pr (fun _ _ => 0, l0) m' = s' at S' C' no
  let Re : Nat → Prop := fun v => ∃ P, Wk (GE n sd c' s'.1) P ∧ srcF n sd s' (P.headD 0) ∧ lastOf P = v
  have edge : ∀ u v, Re u → GE n sd c' s'.1 u v → Re v := fun u v h e => by
    obtain ⟨P, h1, h2, h3⟩ := h
    have ne : P ≠ [] := fun z => by rw [z] at h1; exact h1
    refine ⟨P ++ [v], (wk_snoc ne).mpr ⟨h1, by rw [h3]; exact e⟩, ?_, lastOf_snoc⟩
    cases P with
    | nil => exact absurd rfl ne
    | cons a t => exact h2
  have src : ∀ i, i < n → sd i < 0 → 0 < s'.2 i → Re i := fun i h1 h2 h3 => ⟨[i], trivial, ⟨h1, h2, h3⟩, rfl⟩
  have snk : ∀ j, j < n → 0 < sd j → Re j → s'.2 j = 0 := fun j h1 h2 h => by
    obtain ⟨P, p1, p2, p3⟩ := h
    have z := (S'.2.1 j h1).1
    by_cases q : 0 < s'.2 j
    · exact absurd ⟨p1, p2, by rw [p3]; exact ⟨h1, h2, q⟩⟩ (no P)
    · omega
  have zero : ∀ (t : St) (d : Nat → Nat → Int), (∀ i j, 0 ≤ t.1 i j ∧ t.1 i j ≤ d i j) → (∀ i j, 0 < d i j → i < n ∧ j < n ∧ sd i < 0 ∧ 0 < sd j) → ∀ i j, ¬ (sd i < 0 ∧ 0 < sd j) → t.1 i j = 0 := fun t d h1 h2 i j h => by
    have a := h1 i j
    by_cases q : 0 < d i j
    · exact absurd (h2 i j q).2.2 h
    · omega
  have z1 := zero s c S.1 O.2.2.2
  have z2 := zero s' c' S'.1 O'.2.2.2
  refine cut_le (f := s.1) (f' := s'.1) (c := c) (c' := c') (A := fun i => if sd i < 0 then l0 i else 0) (B := fun j => if 0 < sd j then l0 j else 0) (x := fun v => @ite _ (Re v) (Classical.propDecidable _) 1 0) (fun i _ => ?_) (fun i j _ _ => S.1 i j) (fun i j _ _ => hc i j) (fun i hi => ?_) (fun j hj => ?_) (fun i hi hx => ?_) (fun j hj hx => ?_) (fun i j hi hj h1 h2 => ?_) (fun i j hi hj h1 h2 => ?_)
  · by_cases h : Re i
    · exact Or.inr (if_pos h)
    · exact Or.inl (if_neg h)
  · show _ ≤ if sd i < 0 then l0 i else 0
    by_cases q : sd i < 0
    · rw [if_pos q]
      have a := C.1 i hi q
      have b := (S.2.1 i hi).1
      omega
    · rw [if_neg q]
      have e : sN (fun j => s.1 i j) n = sN (fun _ => 0) n := sN_congr (fun j _ => z1 i j (fun z => q z.1))
      rw [e, sN_zero]; exact Int.le_refl _
  · show _ ≤ if 0 < sd j then l0 j else 0
    by_cases q : 0 < sd j
    · rw [if_pos q]
      have a := C.2 j hj q
      have b := (S.2.1 j hj).1
      omega
    · rw [if_neg q]
      have e : sN (fun i => s.1 i j) n = sN (fun _ => 0) n := sN_congr (fun i _ => z1 i j (fun z => q z.2))
      rw [e, sN_zero]; exact Int.le_refl _
  · have nr : ¬ Re i := fun z => by
      have hx : (@ite _ (Re i) (Classical.propDecidable _) (1 : Int) 0) = 0 := hx
      rw [if_pos z] at hx; cases hx
    show _ = if sd i < 0 then l0 i else 0
    by_cases q : sd i < 0
    · rw [if_pos q]
      have a := C'.1 i hi q
      have b := (S'.2.1 i hi).1
      by_cases y : 0 < s'.2 i
      · exact absurd (src i hi q y) nr
      · omega
    · rw [if_neg q]
      have e : sN (fun j => s'.1 i j) n = sN (fun _ => 0) n := sN_congr (fun j _ => z2 i j (fun z => q z.1))
      rw [e, sN_zero]
  · have rj : Re j := Classical.byContradiction (fun z => by
      have hx : (@ite _ (Re j) (Classical.propDecidable _) (1 : Int) 0) = 1 := hx
      rw [if_neg z] at hx; cases hx)
    show _ = if 0 < sd j then l0 j else 0
    by_cases q : 0 < sd j
    · rw [if_pos q]
      have a := C'.2 j hj q
      have b := snk j hj q rj
      omega
    · rw [if_neg q]
      have e : sN (fun i => s'.1 i j) n = sN (fun _ => 0) n := sN_congr (fun i _ => z2 i j (fun z => q z.2))
      rw [e, sN_zero]
  · have ri : Re i := Classical.byContradiction (fun z => by
      have h1 : (@ite _ (Re i) (Classical.propDecidable _) (1 : Int) 0) = 1 := h1
      rw [if_neg z] at h1; cases h1)
    have rj : ¬ Re j := fun z => by
      have h2 : (@ite _ (Re j) (Classical.propDecidable _) (1 : Int) 0) = 0 := h2
      rw [if_pos z] at h2; cases h2
    have a := S'.1 i j
    by_cases q : 0 < c' i j
    · have o := O'.2.2.2 i j q
      by_cases y : s'.1 i j < c' i j
      · exact absurd (edge i j ri (GE_iff.mpr ⟨hi, hj, Or.inl ⟨o.2.2.1, o.2.2.2, y⟩⟩)) rj
      · omega
    · omega
  · have ri : ¬ Re i := fun z => by
      have h1 : (@ite _ (Re i) (Classical.propDecidable _) (1 : Int) 0) = 0 := h1
      rw [if_pos z] at h1; cases h1
    have rj : Re j := Classical.byContradiction (fun z => by
      have h2 : (@ite _ (Re j) (Classical.propDecidable _) (1 : Int) 0) = 1 := h2
      rw [if_neg z] at h2; cases h2)
    have a := S'.1 i j
    by_cases q : 0 < s'.1 i j
    · have o := O'.2.2.2 i j (by omega)
      exact absurd (edge j i rj (GE_iff.mpr ⟨hj, hi, Or.inr ⟨o.2.2.2, o.2.2.1, q⟩⟩)) ri
    · omega
end CUT
theorem gf_all : ∀ g : Nat, g < 101 → (ji2f g).toNat < 2139095040 ∧ ((ji2f (g : Int)).toNat ≤ (ji2f ((g + 1 : Nat) : Int)).toNat) := by decide +kernel
theorem gf_mono {g g' : Nat} (h : g ≤ g') (h' : g' ≤ 100) : (ji2f (g : Int)).toNat ≤ (ji2f (g' : Int)).toNat := by
  induction g' with
  | zero => have : g = 0 := by omega
            rw [this]; exact Nat.le_refl _
  | succ k ih =>
    by_cases e : g = k + 1
    · rw [e]; exact Nat.le_refl _
    · exact Nat.le_trans (ih (by omega) (by omega)) (gf_all k (by omega)).2
section GATE
variable {N : Nat} {σ : Sto} {b : Nat} {D : Dk}
theorem ctlB_mono {P : Int → Int → Int} (hP : ∀ c j, 0 ≤ P c j ∧ P c j ≤ 100) {g g' : Nat} (h : g ≤ g') (h' : g' ≤ 100) {x y : Int} (hxy : y ≤ x + 7) (q : ctlB P g' x y = true) : ctlB P g x y = true := by
  unfold ctlB at q ⊢
  rw [Bool.and_eq_true] at q ⊢
  refine ⟨q.1, ?_⟩
  have lt : x < y := of_decide_eq_true q.1
  have m := Jvm.FP.Core.fmul_mag (Ka := 198) (Kb := 134) (a := shr P x y) (b := 1120403456) (shr_mag hP (a := x) 7 (by decide) y (by omega) hxy) (by decide) (by decide) (by decide)
  have ok := shr_ok hP (a := x) (b := y) (by omega) hxy
  have nr := nrm_mul (a := shr P x y) (b := 1120403456) (La := 78) (Lb := 133) (by omega) (by decide) ⟨by omega, ok.2⟩ ⟨by decide, Or.inr (by decide)⟩ (by decide) (by decide) (by decide) (by decide)
  have lt2 : (FP.fmul (shr P x y) 1120403456).toNat < 2139095040 := by
    have n1 := nr.1
    have e : (FP.fmul (shr P x y) 1120403456).toNat % 2 ^ 31 = (FP.fmul (shr P x y) 1120403456).toNat := Nat.mod_eq_of_lt n1
    rw [e] at m
    exact Nat.lt_of_lt_of_le m (by decide)
  have b1 := (gf_all g (by omega)).1
  have b2 := (gf_all g' (by omega)).1
  have mo := gf_mono h h'
  have q2 := q.2
  rw [jf_cmp lt2 b2] at q2
  rw [jf_cmp lt2 b1]
  have ge : (ji2f (g' : Int)).toNat ≤ (FP.fmul (shr P x y) 1120403456).toNat := by
    by_cases z : (FP.fmul (shr P x y) 1120403456).toNat < (ji2f (g' : Int)).toNat
    · rw [if_pos z] at q2; cases q2
    · omega
  rw [if_neg (by omega)]
  split <;> rfl
theorem relB_mono {P : Int → Int → Int} (hP : ∀ c j, 0 ≤ P c j ∧ P c j ≤ 100) {g g' : Nat} (h : g ≤ g') (h' : g' ≤ 100) {n : Nat} (hn : n ≤ 8) {x y : Int} (x0 : 0 ≤ x) (x1 : x < n) (y0 : 0 ≤ y) (y1 : y < n) (q : relB P g' n x y = true) : relB P g n x y = true := by
  unfold relB at q ⊢
  rw [Bool.and_eq_true] at q ⊢
  refine ⟨q.1, ?_⟩
  have q2 := q.2
  rw [Bool.or_eq_true, Bool.or_eq_true] at q2 ⊢
  rcases q2 with (z | z) | z
  · exact Or.inl (Or.inl (ctlB_mono hP h h' (by omega) z))
  · exact Or.inl (Or.inr (ctlB_mono hP h h' (by omega) z))
  · obtain ⟨k, k1, k2⟩ := anyB_iff.mp z
    rw [Bool.and_eq_true] at k2
    exact Or.inr (anyB_iff.mpr ⟨k, k1, by rw [Bool.and_eq_true]; exact ⟨ctlB_mono hP h h' (by omega) k2.1, ctlB_mono hP h h' (by omega) k2.2⟩⟩)
theorem dys_mono (V : Val D) {g g' : Nat} (h : g ≤ g') (h' : g' ≤ 100) {x y : Int} (hx : isM D x) (hy : isM D y) {fr to : Int} (f0 : 0 ≤ fr) : dys D g' x y fr to ≤ dys D g x y fr to := by
  unfold dys
  refine sumTo_le (fun k hk => ?_)
  have b1 := dysF_bd V g x y fr to f0 k
  unfold dysF at b1 ⊢
  rw [Int.toNat_natCast] at b1 ⊢
  by_cases q : relB (pct D (stD D k)) g' (dm D) x y = true
  · rw [if_pos q, if_pos (relB_mono (pct_bd V _) h h' V.sz.1 hx.1 hx.2 hy.1 hy.2 q)]; exact Int.le_refl _
  · rw [if_neg q]; exact b1.1
theorem bnd_mono (V : Val D) {F : Int → Int} (hF : FOk D F) {g g' : Nat} (h : g ≤ g') (h' : g' ≤ 100) {i j : Int} (h0 : 0 ≤ i) (h1 : i < dp D) (h2 : 0 ≤ j) (h3 : j < dp D) (r1 : D.2 7 i < 0) (r2 : 0 < D.2 7 j) : bnd D g' F i j ≤ bnd D g F i j := by
  unfold bnd
  by_cases o : D.2 4 i = D.2 4 j
  · rw [if_pos o, if_pos o]; exact Int.le_refl _
  · rw [if_neg o, if_neg o]
    have f1 := hF i h0 h1
    have f2 := hF j h2 h3
    have m := mx_le (a := F i) (b := F j)
    have s : shd D g' F i j ≤ shd D g F i j := dys_mono V h h' (V.per h0 h1).1 (V.per h2 h3).1 (by omega)
    have a1 : -D.2 7 i * shd D g' F i j / (D.2 6 i - F i + 1) ≤ -D.2 7 i * shd D g F i j / (D.2 6 i - F i + 1) := Int.ediv_le_ediv (by omega) (Int.mul_le_mul_of_nonneg_left s (by omega))
    have a2 : D.2 7 j * shd D g' F i j / (D.2 6 j - F j + 1) ≤ D.2 7 j * shd D g F i j / (D.2 6 j - F j + 1) := Int.ediv_le_ediv (by omega) (Int.mul_le_mul_of_nonneg_left s (by omega))
    have n1 := mn_le (a := -D.2 7 i * shd D g' F i j / (D.2 6 i - F i + 1)) (b := D.2 7 j * shd D g' F i j / (D.2 6 j - F j + 1))
    have n2 := mn_le (a := -D.2 7 i * shd D g F i j / (D.2 6 i - F i + 1)) (b := D.2 7 j * shd D g F i j / (D.2 6 j - F j + 1))
    omega
theorem tW_mono (V : Val D) {g g' : Nat} (h : g ≤ g') (h' : g' ≤ 100) {c : Int} {F : Int → Int} (hF : FOk D F) (R : RW D g c F) (R' : RW D g' c F) : tW D g' c F ≤ tW D g c F := by
  have V0 := dk0_val V
  unfold tW tE
  refine mono_total (p_fok (D := dk0 D) (G := G0) V0 hF (dk0_gd V hF)) (p_fok (D := dk0 D) (G := G0) V0 hF (dk0_gd V hF)) (fun i j => ?_) R' R
  unfold pC
  by_cases q : lnk (dk0 D) c F i j = true ∧ G0 i = false ∧ G0 j = false
  · rw [if_pos q, if_pos q]
    have z := lnk_iff.mp q.1
    have m := bnd_mono (D := dk0 D) V0 hF h h' (i := i) (j := j) (by omega) (by omega) (by omega) (by omega) (by omega) (by omega)
    omega
  · rw [if_neg q, if_neg q]; exact Int.le_refl _
/-- the greatest gate that gives n -/
noncomputable def gfB (D : Dk) (n : Int) : Int → Bool := fun k => decide (n ≤ tW D (k + 1) (cD D) (D.2 5))
noncomputable def gM (D : Dk) (n : Int) : Int := lst (gfB D n) 100 + 1
noncomputable def rGateFor (D : Dk) (n : Int) : Int := if 0 ≤ n ∧ n ≤ 9999999 then (if gM D n = 0 then -2 else gM D n) else -1
theorem lst_spec {f : Int → Bool} : ∀ {n : Nat}, (lst f n = -1 ∧ ∀ k : Nat, k < n → f k = false) ∨ ∃ k : Nat, lst f n = k ∧ k < n ∧ f k = true ∧ ∀ j : Nat, k < j → j < n → f j = false := by
  intro n
  induction n with
  | zero => exact Or.inl ⟨rfl, fun k h => by omega⟩
  | succ n ih =>
    have e : lst f (n + 1) = if f n = true then (n : Int) else lst f n := rfl
    by_cases q : f n = true
    · exact Or.inr ⟨n, by rw [e, if_pos q], by omega, q, fun j a b => by omega⟩
    · have q' : f n = false := by
        cases h : f n
        · rfl
        · exact absurd h q
      rw [e, if_neg q]
      rcases ih with ⟨i1, i2⟩ | ⟨k, i1, i2, i3, i4⟩
      · refine Or.inl ⟨i1, fun k hk => ?_⟩
        by_cases z : k = n
        · subst z; exact q'
        · exact i2 k (by omega)
      · refine Or.inr ⟨k, i1, by omega, i3, fun j a b => ?_⟩
        by_cases z : j = n
        · subst z; exact q'
        · exact i4 j a (by omega)
theorem gM_spec (n : Int) : (gM D n = 0 ∧ ∀ g : Nat, 1 ≤ g → g ≤ 100 → tW D g (cD D) (D.2 5) < n) ∨ (1 ≤ gM D n ∧ gM D n ≤ 100 ∧ n ≤ tW D (gM D n) (cD D) (D.2 5) ∧ ∀ g : Nat, gM D n < g → g ≤ 100 → tW D g (cD D) (D.2 5) < n) := by
  have f : ∀ g : Nat, 1 ≤ g → gfB D n ((g - 1 : Nat) : Int) = decide (n ≤ tW D g (cD D) (D.2 5)) := fun g h => by
    show decide (n ≤ tW D (((g - 1 : Nat) : Int) + 1) (cD D) (D.2 5)) = _
    rw [show ((g - 1 : Nat) : Int) + 1 = g by omega]
  unfold gM
  rcases lst_spec (f := gfB D n) (n := 100) with ⟨a, b⟩ | ⟨k, a, b, c, d⟩
  · refine Or.inl ⟨by omega, fun g h1 h2 => ?_⟩
    have := b (g - 1) (by omega)
    rw [f g h1] at this
    have := of_decide_eq_false this
    omega
  · refine Or.inr ⟨by omega, by omega, ?_, fun g h1 h2 => ?_⟩
    · rw [a]; exact of_decide_eq_true c
    · have := d (g - 1) (by omega) (by omega)
      rw [f g (by omega)] at this
      have := of_decide_eq_false this
      omega
theorem x_gateFor (hN : BigN N) (V : Val D) (X : XC σ b D) (n : Int) : QX σ b D (F_X11_gateFor N n σ) (rGateFor D n) ∧ ∀ g : Int, RW D g (cD D) (D.2 5) := by
  have RA : ∀ g : Int, RW D g (cD D) (D.2 5) := fun g => by
    obtain ⟨_, _, _, _, h⟩ := x_reliefByGate (N := N) hN V X g
    exact h
  refine ⟨?_, RA⟩
  unfold F_X11_gateFor rGateFor
  by_cases h1 : n < 0
  · rw [if_pos h1, if_neg (by omega)]; exact QX.same X rfl
  · rw [if_neg h1]
    by_cases h2 : n ≤ 9999999
    · rw [if_pos h2, if_pos (show 0 ≤ n ∧ n ≤ 9999999 by omega)]
      have gs := gM_spec (D := D) n
      have B : ∃ r : Int × Sto, (r.1 = (if gM D n = 0 then -2 else gM D n) ∧ XC r.2 b D ∧ RO σ r.2) ∧ ∀ _ : Unit, loopK (fun q nx21 => F_X11_gateFor_B21 N nx21 n q.1 q.2.1 q.2.2.1 q.2.2.2) N (0, 100, 0, σ) = some r := by
        refine loop_E (X := Unit) (b := fun _ q nx => F_X11_gateFor_B21 N nx n q.1 q.2.1 q.2.2.1 q.2.2.2) (fin := fun _ r => some r) (s0 := ((0 : Int), (100 : Int), (0 : Int), σ)) (fun k q => q.2.2.1 = k ∧ XC q.2.2.2 b D ∧ RO σ q.2.2.2 ∧ 0 ≤ q.1 ∧ q.1 ≤ gM D n ∧ gM D n ≤ q.2.1 ∧ q.2.1 ≤ 100 ∧ q.2.1 - q.1 ≤ 100 - k) _ 100 (bigN hN) ⟨rfl, X, RO.rf, by show (0 : Int) ≤ 0; omega, by show (0 : Int) ≤ gM D n; omega, by show gM D n ≤ 100; omega, by show (100 : Int) ≤ 100; omega, by show (100 : Int) - 0 ≤ 100 - ((0 : Nat) : Int); omega⟩ (fun k q hk hI => ?_)
        obtain ⟨lo, hi, u, τ⟩ := q
        obtain ⟨rfl, i2, i3, i4, i5, i6, i7, i8⟩ := hI
        have i4 : 0 ≤ lo := i4
        have i5 : lo ≤ gM D n := i5
        have i6 : gM D n ≤ hi := i6
        have i7 : hi ≤ 100 := i7
        have i8 : hi - lo ≤ 100 - (k : Int) := i8
        have J : F_X11_gateFor_J69 N lo τ = some ((if lo = 0 then -2 else lo), τ) := by
          unfold F_X11_gateFor_J69
          split <;> rfl
        by_cases e : hi ≤ lo
        · refine Or.inr ⟨((if lo = 0 then -2 else lo), τ), ⟨by show (if lo = 0 then -2 else lo) = _; rw [show lo = gM D n by omega], i2, i3⟩, fun x nx => ?_⟩
          show F_X11_gateFor_B21 N nx n lo hi (k : Int) τ = _
          unfold F_X11_gateFor_B21
          rw [J, if_pos e]
          split <;> rfl
        · obtain ⟨mid, hm⟩ : ∃ mid : Nat, (lo + hi + 1) / 2 = (mid : Int) := ⟨((lo + hi + 1) / 2).toNat, by omega⟩
          have em : jdiv (ja (ja lo hi) 1) 2 = (mid : Int) := by
            rw [ja_eq (a := lo) ⟨by omega, by omega⟩, ja_eq (a := lo + hi) ⟨by omega, by omega⟩, jdiv_eq ⟨by omega, by omega⟩ ⟨by omega, by omega⟩ (by omega) (by omega), hm]
          obtain ⟨σ1, a1, a2, a3, a4⟩ := x_reliefByGate (N := N) hN V i2 mid
          have unf : ∀ nx, F_X11_gateFor_B21 N nx n lo hi (k : Int) τ = if tW D mid (cD D) (D.2 5) < n then nx (lo, (mid : Int) - 1, (k : Int) + 1, σ1) else nx ((mid : Int), hi, (k : Int) + 1, σ1) := fun nx => by
            unfold F_X11_gateFor_B21 F_X11_gateFor_J63
            rw [if_neg (by omega), if_neg e, em, a1, Option.bind_some, js_eq ⟨by omega, by omega⟩, ja_1 (by omega) (by omega)]
          by_cases z : tW D mid (cD D) (D.2 5) < n
          · refine Or.inl ⟨by omega, (lo, (mid : Int) - 1, (k : Int) + 1, σ1), ⟨by show (k : Int) + 1 = _; omega, a2, i3.tr a3, i4, i5, ?_, by show (mid : Int) - 1 ≤ 100; omega, by show (mid : Int) - 1 - lo ≤ 100 - ((k + 1 : Nat) : Int); omega⟩, fun x nx => ?_⟩
            · show gM D n ≤ (mid : Int) - 1
              rcases gs with ⟨g1, g2⟩ | ⟨g1, g2, g3, g4⟩
              · omega
              · by_cases y : (mid : Int) ≤ gM D n
                · obtain ⟨w, hw⟩ : ∃ w : Nat, gM D n = w := ⟨(gM D n).toNat, by omega⟩
                  rw [hw] at g3 y
                  have := tW_mono V (g := mid) (g' := w) (by omega) (by omega) V.fok (RA mid) (RA w)
                  omega
                · omega
            · show F_X11_gateFor_B21 N nx n lo hi (k : Int) τ = _
              rw [unf nx, if_pos z]
          · refine Or.inl ⟨by omega, ((mid : Int), hi, (k : Int) + 1, σ1), ⟨by show (k : Int) + 1 = _; omega, a2, i3.tr a3, by show (0 : Int) ≤ mid; omega, ?_, i6, i7, by show hi - (mid : Int) ≤ 100 - ((k + 1 : Nat) : Int); omega⟩, fun x nx => ?_⟩
            · show (mid : Int) ≤ gM D n
              rcases gs with ⟨g1, g2⟩ | ⟨g1, g2, g3, g4⟩
              · have := g2 mid (by omega) (by omega); omega
              · by_cases y : gM D n < (mid : Int)
                · have := g4 mid y (by omega); omega
                · omega
            · show F_X11_gateFor_B21 N nx n lo hi (k : Int) τ = _
              rw [unf nx, if_neg z]
      obtain ⟨r, ⟨r1, r2, r3⟩, hr⟩ := B
      rw [hr (), ← r1]
      exact ⟨r.2, rfl, r2, r3⟩
    · rw [if_neg h2, if_neg (by omega)]; exact QX.same X rfl
theorem m_gateFor (hN : BigN N) (V : Val D) (M : MK σ D) (n : Int) (R : ∀ g : Int, RW D g (cD D) (D.2 5)) : QM σ D (F_X12_gateFor N n σ) (rGateFor D n) := by
  obtain ⟨M', m'⟩ := M.up2 V 0
  unfold F_X12_gateFor rGateFor
  rw [m_isIn, Option.bind_some]
  by_cases h : 0 ≤ n ∧ n ≤ 9999999
  · rw [if_pos h, if_neg (by decide), if_pos h]
    have gs := gM_spec (D := D) n
    have B : ∃ r : Int × Sto, (r.1 = (if gM D n = 0 then -2 else gM D n) ∧ MK r.2 D ∧ MO (upI σ 94 2 0) r.2) ∧ ∀ _ : Unit, loopK (fun q nx21 => F_X12_gateFor_B21 N nx21 n q.1 q.2) N (100, upI σ 94 2 0) = some r := by
      refine loop_E (X := Unit) (b := fun _ q nx => F_X12_gateFor_B21 N nx n q.1 q.2) (fin := fun _ r => some r) (s0 := ((100 : Int), upI σ 94 2 0)) (fun k q => q.1 = 100 - (k : Int) ∧ MK q.2 D ∧ MO (upI σ 94 2 0) q.2 ∧ gM D n ≤ 100 - (k : Int)) _ 100 (bigN hN) ⟨by show (100 : Int) = 100 - ((0 : Nat) : Int); omega, M', MO.rf, by omega⟩ (fun k q hk hI => ?_)
      obtain ⟨g, τ⟩ := q
      obtain ⟨e1, i2, i3, i4⟩ := hI
      have e1 : g = 100 - (k : Int) := e1
      subst e1
      by_cases e : k = 100
      · subst e
        refine Or.inr ⟨(-2, τ), ⟨by show (-2 : Int) = _; rw [if_pos (by omega)], i2, i3⟩, fun x nx => ?_⟩
        show F_X12_gateFor_B21 N nx n (100 - ((100 : Nat) : Int)) τ = _
        unfold F_X12_gateFor_B21
        rw [if_pos (by omega)]
      · obtain ⟨w, hw⟩ : ∃ w : Nat, 100 - (k : Int) = w := ⟨100 - k, by omega⟩
        obtain ⟨σ1, a1, a2, a3⟩ := m_gate (N := N) hN V i2 w (R w)
        have unf : ∀ nx, F_X12_gateFor_B21 N nx n (w : Int) τ = if tW D w (cD D) (D.2 5) < n then nx ((w : Int) - 1, σ1) else some ((w : Int), σ1) := fun nx => by
          unfold F_X12_gateFor_B21
          rw [if_neg (by omega), a1, Option.bind_some, js_eq ⟨by omega, by omega⟩]
        by_cases z : tW D w (cD D) (D.2 5) < n
        · refine Or.inl ⟨by omega, ((w : Int) - 1, σ1), ⟨by show (w : Int) - 1 = _; omega, a2, i3.tr a3, ?_⟩, fun x nx => ?_⟩
          · rcases gs with ⟨g1, g2⟩ | ⟨g1, g2, g3, g4⟩
            · omega
            · by_cases y : gM D n = w
              · rw [y] at g3; omega
              · omega
          · show F_X12_gateFor_B21 N nx n (100 - (k : Int)) τ = _
            rw [hw, unf nx, if_pos z]
        · refine Or.inr ⟨((w : Int), σ1), ⟨?_, a2, i3.tr a3⟩, fun x nx => ?_⟩
          · show (w : Int) = if gM D n = 0 then -2 else gM D n
            rcases gs with ⟨g1, g2⟩ | ⟨g1, g2, g3, g4⟩
            · have := g2 w (by omega) (by omega); omega
            · by_cases y : gM D n < (w : Int)
              · have := g4 w y (by omega); omega
              · rw [if_neg (by omega)]; omega
          · show F_X12_gateFor_B21 N nx n (100 - (k : Int)) τ = _
            rw [hw, unf nx, if_neg z]
    obtain ⟨r, ⟨r1, r2, r3⟩, hr⟩ := B
    rw [hr (), ← r1]
    exact ⟨r.2, rfl, r2, m'.tr r3⟩
  · rw [if_neg h, if_pos rfl, if_neg h]; exact QM.same V M rfl
end GATE
