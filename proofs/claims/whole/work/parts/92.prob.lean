/-! THE PROBLEM of a desk: who is there, what is open, what there is room for -/
def tkF (D : Dk) (G : Int → Bool) (p : Int) : Int → Int := fun k => if (D.2 12 k = p ∨ D.2 13 k = p) ∧ G (D.2 12 k) = false ∧ G (D.2 13 k) = false then D.2 14 k else 0
def tkG (D : Dk) (G : Int → Bool) (p : Int) : Int := sumTo (tkF D G p) (dc D)
def pS (D : Dk) (G : Int → Bool) : Nat → Int := fun u => if G u = true then 0 else sgn (D.2 7 u)
def pL (D : Dk) (G : Int → Bool) : Nat → Int := fun u => if G u = true then 0 else rabs (D.2 7 u) - tkG D G u
def pC (D : Dk) (g c : Int) (F : Int → Int) (G : Int → Bool) : Nat → Nat → Int := fun i j => if lnk D c F i j = true ∧ G i = false ∧ G j = false then bnd D g F i j - takOn D i j else 0
def pP (D : Dk) (c : Int) (F : Int → Int) : Nat → Nat → Int := fun i j => if lnk D c F i j = true then prc D i j else 0
/-- CLAIMS are on LINKS and within what they may be -/
def Gd (D : Dk) (g c : Int) (F : Int → Int) : Prop := (∀ k : Nat, k < dc D → lnk D c F (D.2 12 k) (D.2 13 k) = true) ∧ (∀ i j : Int, lnk D c F i j = true → takOn D i j ≤ bnd D g F i j) ∧ ∀ p : Int, 0 ≤ p → p < dp D → 0 ≤ opn D p
theorem sumTo_le {f g : Int → Int} : ∀ {n : Nat}, (∀ k : Nat, k < n → f k ≤ g k) → sumTo f n ≤ sumTo g n := by
  intro n
  induction n with
  | zero => intro _; exact Int.le_refl _
  | succ n ih =>
    intro h
    have a := ih (fun k hk => h k (by omega))
    have b := h n (by omega)
    show sumTo f n + f n ≤ sumTo g n + g n
    omega
theorem sumTo_nn {f : Int → Int} : ∀ {n : Nat}, (∀ k : Nat, k < n → 0 ≤ f k) → 0 ≤ sumTo f n := by
  intro n
  induction n with
  | zero => intro _; exact Int.le_refl _
  | succ n ih =>
    intro h
    have a := ih (fun k hk => h k (by omega))
    have b := h n (by omega)
    show 0 ≤ sumTo f n + f n
    omega
theorem tkF_bd {D : Dk} (V : Val D) (G : Int → Bool) (p : Int) (k : Nat) (hk : k < dc D) : 0 ≤ tkF D G p k ∧ tkF D G p k ≤ takF D p k ∧ tkF D G p k ≤ 99999 := by
  have c := (V.clm (k := k) (by omega) (by omega)).2.2
  unfold tkF takF
  by_cases h : (D.2 12 k = p ∨ D.2 13 k = p) ∧ G (D.2 12 k) = false ∧ G (D.2 13 k) = false
  · rw [if_pos h, if_pos h.1]; omega
  · rw [if_neg h]; split <;> omega
theorem tkG_bd {D : Dk} (V : Val D) (G : Int → Bool) (p : Int) : 0 ≤ tkG D G p ∧ tkG D G p ≤ takOf D p := ⟨sumTo_nn (fun k hk => (tkF_bd V G p k hk).1), sumTo_le (fun k hk => (tkF_bd V G p k hk).2.1)⟩
section PROB
variable {D : Dk} {g c : Int} {F : Int → Int} {G : Int → Bool}
theorem pL_bd (V : Val D) (K : Gd D g c F) {u : Nat} (hu : u < dp D) : 0 ≤ pL D G u ∧ pL D G u ≤ 99999 := by
  have a := tkG_bd V G u
  have b := K.2.2 u (by omega) (by omega)
  have r := rabs_bd V (p := u) (by omega) (by omega)
  unfold opn at b
  unfold pL
  split <;> omega
theorem p_fok (V : Val D) (hF : FOk D F) (K : Gd D g c F) : FOK (dp D) (pS D G) (pC D g c F G) (pP D c F) := by
  have vz := V.sz
  refine ⟨vz.2.1, fun i j => ?_, fun i j => ?_, fun i j h => ?_⟩
  · unfold pP
    split
    · rename_i q
      have q := lnk_iff.mp q
      exact prc_bd V (by omega) (by omega) (by omega) (by omega)
    · omega
  · unfold pC
    split
    · rename_i q
      have a := K.2.1 i j q.1
      have t := takOn_bd V i j
      have q := lnk_iff.mp q.1
      have b := bnd_bd (g := g) V hF (i := i) (j := j) (by omega) (by omega) (by omega) (by omega) (by omega) (by omega)
      omega
    · omega
  · unfold pC at h
    by_cases q : lnk D c F i j = true ∧ G i = false ∧ G j = false
    · have q2 := lnk_iff.mp q.1
      refine ⟨by omega, by omega, ?_, ?_⟩
      · unfold pS; rw [if_neg (by rw [q.2.1]; decide), sgnN]; omega
      · unfold pS; rw [if_neg (by rw [q.2.2]; decide), sgnP]; omega
    · rw [if_neg q] at h; omega
theorem p_sok (V : Val D) (hF : FOk D F) (K : Gd D g c F) : SOK (dp D) (pS D G) (pC D g c F G) (pP D c F) (fun _ _ => 0, pL D G) := by
  have O := p_fok (G := G) V hF K
  refine ⟨fun i j => ⟨Int.le_refl _, (O.2.2.1 i j).1⟩, fun i hi => pL_bd V K hi, fun _ => 0, ?_⟩
  exact pot_start (fun i j _ _ => (O.2.1 i j).1)
theorem p_zr (V : Val D) (K : Gd D g c F) : Zr (dp D) (pS D G) (fun _ _ => 0, pL D G) := fun i hi e => by
  show pL D G i = 0
  have a := tkG_bd V G i
  have b := K.2.2 i (by omega) (by omega)
  unfold opn at b
  unfold pS at e
  unfold pL
  split
  · rfl
  · rename_i q
    rw [if_neg q] at e
    have z : D.2 7 i = 0 := by
      have n1 := sgnN (x := D.2 7 i)
      have n2 := sgnP (x := D.2 7 i)
      omega
    have r : rabs (D.2 7 i) = 0 := by rw [z]; rfl
    omega
theorem p_prb (V : Val D) : Prb D (dp D) (pS D G) (pC D g c F G) (pP D c F) := by
  refine ⟨rfl, fun u _ => ?_, fun i j h => ?_⟩
  · unfold pS
    split
    · exact Or.inr rfl
    · exact Or.inl rfl
  · unfold pC at h
    by_cases q : lnk D c F i j = true ∧ G i = false ∧ G j = false
    · unfold pP; rw [if_pos q.1]
    · rw [if_neg q] at h; omega
end PROB
section LOAD
variable {N : Nat} {σ : Sto} {D : Dk} {g c : Int} {F : Int → Int} {G : Int → Bool}
/-- claims on a link, between those that are there -/
def toG (D : Dk) (G : Int → Bool) (i j : Int) : Int → Int := fun k => if D.2 12 k = i ∧ D.2 13 k = j ∧ G i = false ∧ G j = false then D.2 14 k else 0
def ldB (D : Dk) (G : Int → Bool) (k : Nat) (u : Nat) : Int := (if G u = true then 0 else rabs (D.2 7 u)) - sumTo (tkF D G u) k
def ldC (D : Dk) (g c : Int) (F : Int → Int) (G : Int → Bool) (k : Nat) (i j : Nat) : Int := (if lnk D c F i j = true then bnd D g F i j else 0) - sumTo (toG D G i j) k
theorem k_load1 (hN : BigN N) (V : Val D) (hF : FOk D F) {t b tn l : Nat} {w : Int} (hb : b ≤ 32) (ht : 58 ≤ t) (htn : 33 ≤ tn) (ht2 : tn + 2 < t ∨ t + 13 < tn) (hl : 29 ≤ l) (hl2 : l + 3 < t ∨ t + 13 < l) (B : BokR σ b D) (X : NetR σ tn D g c F) (L : LedR σ l D) (hG : ∀ p : Nat, p < dp D → tb w p = G p) : ∃ σ', F_X1_load N t b tn l w σ = F_X1_load_J151 N t l w σ' ∧ σ'.1 t 11 = dp D ∧ LedR σ' l D ∧ (∀ u : Nat, u < dp D → σ'.1 (t + 1) u = pS D G u ∧ σ'.1 (t + 2) u = ldB D G 0 u) ∧ ∀ i j : Nat, i < dp D → j < dp D → σ'.1 (t + 3) (12 * i + j) = ldC D g c F G 0 i j ∧ σ'.1 (t + 4) (12 * i + j) = pP D c F i j := by
  have vz := V.sz
  unfold F_X1_load
  rw [B.1.2.1]
  refine Exists.elim (loop_A (b := fun q nx => F_X1_load_B11 N nx t b tn l w q.1 q.2) (fin := fun q => F_X1_load_J151 N t l w q.2) (N := N) (s0 := ((0 : Int), upI σ t 11 (dp D))) (fun k q => q.1 = k ∧ q.2.1 t 11 = dp D ∧ (∀ a z, (a < t ∨ t + 4 < a) → q.2.1 a z = σ.1 a z) ∧ (∀ u : Nat, u < k → q.2.1 (t + 1) u = pS D G u ∧ q.2.1 (t + 2) u = ldB D G 0 u) ∧ ∀ i j : Nat, i < k → j < dp D → q.2.1 (t + 3) (12 * i + j) = ldC D g c F G 0 i j ∧ q.2.1 (t + 4) (12 * i + j) = pP D c F i j) (dp D) (bigN hN) ⟨rfl, up_same, fun a z h => upI_ne (by omega), fun u h => by omega, fun i j h => by omega⟩ (fun k q hk hI => ?_) (fun q hI nx => ?_)) (fun q hq => ?_)
  rotate_right
  · obtain ⟨⟨j1, j2, j3, j4, j5⟩, hx⟩ := hq
    exact ⟨q.2, hx, j2, L.cg (fun a z x y => j3 a z (by omega)), j4, j5⟩
  · obtain ⟨u, τ⟩ := q
    obtain ⟨rfl, i2, i3, i4, i5⟩ := hI
    have Bτ : BokR τ b D := B.cg (fun a z x y => i3 a z (by omega))
    have Xτ : NetR τ tn D g c F := X.cg (fun a z h => i3 a z (by omega))
    have r := (V.per (p := k) (by omega) (by omega)).2.2
    have gk := hG k hk
    -- the row
    have row : ∃ τ2, (∀ x, F_X1_load_J84 N x t b tn l w k k (if G k = true then 0 else rabs (D.2 7 k)) (upI τ (t + 1) k (pS D G k)) = x ((k : Int) + 1, τ2)) ∧ (∀ (a : Nat) (z : Int), ¬ ((a = t + 1 ∨ a = t + 2) ∧ z = k) → a ≠ t + 3 → a ≠ t + 4 → τ2.1 a z = τ.1 a z) ∧ τ2.1 (t + 1) k = pS D G k ∧ τ2.1 (t + 2) k = (if G k = true then 0 else rabs (D.2 7 k)) ∧ (∀ a z, z < 12 * (k : Int) → (a = t + 3 ∨ a = t + 4) → τ2.1 a z = τ.1 a z) ∧ ∀ j : Nat, j < dp D → τ2.1 (t + 3) (12 * k + j) = ldC D g c F G 0 k j ∧ τ2.1 (t + 4) (12 * k + j) = pP D c F k j := by
      have bs : ∀ a z, (a < t ∨ t + 4 < a) → (upI (upI τ (t + 1) k (pS D G k)) (t + 2) k (if G k = true then 0 else rabs (D.2 7 k))).1 a z = τ.1 a z := fun a z h => by rw [up_pl (by omega), up_pl (by omega)]
      refine Exists.elim (loop_X (b := fun x q nx => F_X1_load_B88 N x nx t b tn l w k q.1 q.2) (fin := fun x q => x ((k : Int) + 1, q.2)) (N := N) (s0 := ((0 : Int), upI (upI τ (t + 1) k (pS D G k)) (t + 2) k (if G k = true then 0 else rabs (D.2 7 k)))) (fun m q => q.1 = m ∧ (∀ a z, a ≠ t + 3 → a ≠ t + 4 → q.2.1 a z = (upI (upI τ (t + 1) k (pS D G k)) (t + 2) k (if G k = true then 0 else rabs (D.2 7 k))).1 a z) ∧ (∀ a z, z < 12 * (k : Int) → (a = t + 3 ∨ a = t + 4) → q.2.1 a z = τ.1 a z) ∧ ∀ j : Nat, j < m → q.2.1 (t + 3) (12 * k + j) = ldC D g c F G 0 k j ∧ q.2.1 (t + 4) (12 * k + j) = pP D c F k j) (dp D) (bigN hN) ⟨rfl, fun _ _ _ _ => rfl, fun a z _ h => ?_, fun j h => by omega⟩ (fun m q hm hI => ?_) (fun q hI x nx => ?_)) (fun q hq => ?_)
      rotate_right
      · obtain ⟨⟨l1, l2, l3, l4⟩, hx⟩ := hq
        refine ⟨q.2, fun x => ?_, fun a z h1 h2 h3 => ?_, ?_, ?_, l3, l4⟩
        · unfold F_X1_load_J84
          rw [inb_in (by omega)]
          exact hx x
        · rw [l2 a z h2 h3, upI_ne (by omega), upI_ne (by omega)]
        · rw [l2 _ _ (by omega) (by omega), up_pl (by omega), up_same]
        · rw [l2 _ _ (by omega) (by omega), up_same]
      · rw [up_pl (by omega), up_pl (by omega)]
      · obtain ⟨u, τ'⟩ := q
        obtain ⟨rfl, l2, l3, l4⟩ := hI
        have ix : ja (jm (k : Int) 12) (m : Int) = 12 * k + m := ix12 (by omega) (by omega) (by omega) (by omega)
        have nb := Xτ k m (by omega) (by omega) (by omega) (by omega)
        have n1 : τ'.1 (tn + 1) (12 * k + m) = if lnk D c F k m = true then bnd D g F k m else -1 := ((l2 _ _ (by omega) (by omega)).trans (bs _ _ (by omega))).trans nb.1
        have n2 : τ'.1 (tn + 2) (12 * k + m) = if lnk D c F k m = true then prc D k m else 0 := ((l2 _ _ (by omega) (by omega)).trans (bs _ _ (by omega))).trans nb.2
        have n3 : jmax 0 (if lnk D c F k m = true then bnd D g F k m else -1) = ldC D g c F G 0 k m := by
          unfold ldC
          show _ = _ - 0
          rw [Int.sub_zero]
          split
          · rename_i q
            have q := lnk_iff.mp q
            have b := bnd_bd (g := g) V hF (i := k) (j := m) (by omega) (by omega) (by omega) (by omega) (by omega) (by omega)
            unfold jmax; split <;> omega
          · rfl
        refine ⟨((m : Int) + 1, upI (upI τ' (t + 3) (12 * k + m) (ldC D g c F G 0 k m)) (t + 4) (12 * k + m) (pP D c F k m)), ⟨by show (m : Int) + 1 = _; omega, fun a z h1 h2 => ?_, fun a z h1 h2 => ?_, fun j hj => ?_⟩, fun x nx => ?_⟩
        · show (upI (upI τ' _ _ _) _ _ _).1 a z = _
          rw [up_pl h2, up_pl h1]; exact l2 a z h1 h2
        · show (upI (upI τ' _ _ _) _ _ _).1 a z = _
          rw [up_ix (by omega), up_ix (by omega)]; exact l3 a z h1 h2
        · show (upI (upI τ' _ _ _) _ _ _).1 _ _ = _ ∧ (upI (upI τ' _ _ _) _ _ _).1 _ _ = _
          by_cases e : j = m
          · subst e
            rw [up_pl (by omega), up_same, up_same]; exact ⟨rfl, rfl⟩
          · rw [up_ix (by omega), up_ix (by omega), up_ix (by omega), up_ix (by omega)]; exact l4 j (by omega)
        · show F_X1_load_B88 N x nx t b tn l w k m τ' = _
          unfold F_X1_load_B88
          rw [(l2 t 11 (by omega) (by omega)).trans ((upI_ne (by omega)).trans ((upI_ne (by omega)).trans i2)), if_neg (by omega), ix, inb_in (by omega), n1, n3, up_pl (by omega), n2, ja_1 (by omega) (by omega)]
          rfl
      · obtain ⟨u, τ'⟩ := q
        obtain ⟨rfl, l2, -⟩ := hI
        show F_X1_load_B88 N x nx t b tn l w k (dp D : Int) τ' = _
        unfold F_X1_load_B88 F_X1_load_J145
        rw [(l2 t 11 (by omega) (by omega)).trans ((upI_ne (by omega)).trans ((upI_ne (by omega)).trans i2)), if_pos (Int.le_refl _), ja_1 (by omega) (by omega)]
    obtain ⟨τ2, w1, w2, w3, w4, w5, w6⟩ := row
    refine ⟨((k : Int) + 1, τ2), ⟨by show (k : Int) + 1 = _; omega, (w2 t 11 (by omega) (by omega) (by omega)).trans i2, fun a z h => (w2 a z (by omega) (by omega) (by omega)).trans (i3 a z h), fun v hv => ?_, fun i j hi hj => ?_⟩, fun nx => ?_⟩
    · by_cases e : v = k
      · subst e
        refine ⟨w3, w4.trans ?_⟩
        unfold ldB
        show _ = _ - 0
        rw [Int.sub_zero]
      · show τ2.1 _ _ = _ ∧ τ2.1 _ _ = _
        rw [w2 _ _ (by omega) (by omega) (by omega), w2 _ _ (by omega) (by omega) (by omega)]; exact i4 v (by omega)
    · by_cases e : i = k
      · subst e; exact w6 j hj
      · show τ2.1 _ _ = _ ∧ τ2.1 _ _ = _
        rw [w5 _ _ (by omega) (by omega), w5 _ _ (by omega) (by omega)]; exact i5 i j (by omega) hj
    · show F_X1_load_B11 N nx t b tn l w (k : Int) τ = _
      rw [← w1 nx]
      unfold F_X1_load_B11 F_X1_load_J35 F_X1_load_J58
      have e7 : (upI τ (t + 1) (k : Int) (sgn (D.2 7 k))).1 (b + 7) k = D.2 7 k := (up_pl (by omega)).trans (Bτ.2.2.1 k (by omega) (by omega)).2.2.2
      rw [i2, if_neg (by omega), if_neg (by decide : ¬ (1 : Int) = 0), if_pos (rfl : (0 : Int) = 0), k_signOf V Bτ (by omega) (by omega)]
      by_cases q : G k = true
      · rw [if_neg (fun z => by rw [(tb_test0 (by omega)).mp z, q] at gk; cases gk), inb_in (by omega), if_pos rfl, if_pos q]
        unfold pS
        rw [if_pos q]
      · have q0 : G k = false := by
          cases h : G k
          · rfl
          · exact absurd h q
        rw [if_pos ((tb_test0 (by omega)).mpr (by rw [gk, q0])), Option.bind_some, inb_in (by omega), if_neg (by decide : ¬ (1 : Int) = 0), inb_in (by omega), e7, jabs_eq (by omega) (by omega), if_neg q]
        unfold pS
        rw [if_neg q]
        rfl
  · obtain ⟨u, τ⟩ := q
    obtain ⟨rfl, i2, -⟩ := hI
    show F_X1_load_B11 N nx t b tn l w (dp D : Int) τ = _
    unfold F_X1_load_B11
    rw [i2, if_pos (Int.le_refl _)]
theorem k_load2 (hN : BigN N) (V : Val D) (hF : FOk D F) (K : Gd D g c F) {t l : Nat} {w : Int} (ht : 58 ≤ t) (hl2 : l + 3 < t ∨ t + 13 < l) (L : LedR σ l D) (hG : ∀ p : Nat, p < dp D → tb w p = G p) (x1 : ∀ u : Nat, u < dp D → σ.1 (t + 2) u = ldB D G 0 u) (x2 : ∀ i j : Nat, i < dp D → j < dp D → σ.1 (t + 3) (12 * i + j) = ldC D g c F G 0 i j) : ∃ σ', F_X1_load_J151 N t l w σ = some σ' ∧ (∀ a z, a ≠ t + 2 → a ≠ t + 3 → σ'.1 a z = σ.1 a z) ∧ (∀ u : Nat, u < dp D → σ'.1 (t + 2) u = ldB D G (dc D) u) ∧ ∀ i j : Nat, i < dp D → j < dp D → σ'.1 (t + 3) (12 * i + j) = ldC D g c F G (dc D) i j := by
  have vz := V.sz
  unfold F_X1_load_J151
  refine Exists.elim (loop_A (b := fun q nx => F_X1_load_B154 N nx t l w q.1 q.2) (fin := fun q => some q.2) (N := N) (s0 := ((0 : Int), σ)) (fun k q => q.1 = k ∧ (∀ a z, a ≠ t + 2 → a ≠ t + 3 → q.2.1 a z = σ.1 a z) ∧ (∀ u : Nat, u < dp D → q.2.1 (t + 2) u = ldB D G k u) ∧ ∀ i j : Nat, i < dp D → j < dp D → q.2.1 (t + 3) (12 * i + j) = ldC D g c F G k i j) (dc D) (bigN hN) ⟨rfl, fun _ _ _ _ => rfl, x1, x2⟩ (fun k q hk hI => ?_) (fun q hI nx => ?_)) (fun q hq => ?_)
  rotate_right
  · obtain ⟨⟨j1, j2, j3, j4⟩, hx⟩ := hq
    exact ⟨q.2, hx, j2, j3, j4⟩
  · obtain ⟨u, τ⟩ := q
    obtain ⟨rfl, i2, i3, i4⟩ := hI
    have Lτ : LedR τ l D := L.cg (fun a z x y => i2 a z (by omega) (by omega))
    obtain ⟨e1, e2, e3⟩ := Lτ.2 k (by omega) (by omega)
    have cl := V.clm (k := k) (by omega) (by omega)
    have lk := lnk_iff.mp (K.1 k hk)
    obtain ⟨x, hx⟩ : ∃ x : Nat, D.2 12 k = x := ⟨(D.2 12 k).toNat, by omega⟩
    obtain ⟨y, hy⟩ : ∃ y : Nat, D.2 13 k = y := ⟨(D.2 13 k).toNat, by omega⟩
    have xy : x ≠ y := fun z => by rw [hx, hy, z] at lk; omega
    have gx := hG x (by omega)
    have gy := hG y (by omega)
    -- how far the sums go
    have sb : ∀ p : Int, 0 ≤ sumTo (tkF D G p) k ∧ sumTo (tkF D G p) k ≤ 2999970 := fun p => by
      have := sumTo_bd (f := tkF D G p) (lo := 0) (hi := 99999) (n := k) (fun i hi => by have := tkF_bd V G p i (by omega); omega)
      omega
    have sc : 0 ≤ sumTo (toG D G x y) k ∧ sumTo (toG D G x y) k ≤ 2999970 := by
      have := sumTo_bd (f := toG D G x y) (lo := 0) (hi := 99999) (n := k) (fun i hi => by
        have c := (V.clm (k := i) (by omega) (by omega)).2.2
        unfold toG; split <;> omega)
      omega
    have rb : ∀ p : Nat, p < dp D → 0 ≤ (if G p = true then 0 else rabs (D.2 7 p)) ∧ (if G p = true then 0 else rabs (D.2 7 p)) ≤ 99999 := fun p hp => by
      have := rabs_bd V (p := p) (by omega) (by omega)
      split <;> omega
    have bb : 0 ≤ (if lnk D c F x y = true then bnd D g F x y else 0) ∧ (if lnk D c F x y = true then bnd D g F x y else 0) ≤ 99999000 := by
      split
      · rename_i q
        have q := lnk_iff.mp q
        have b := bnd_bd (g := g) V hF (i := x) (j := y) (by omega) (by omega) (by omega) (by omega) (by omega) (by omega)
        omega
      · omega
    have rx := rb x (by omega)
    have ry := rb y (by omega)
    have sx := sb x
    have sy := sb y
    have ix : ja (jm (x : Int) 12) (y : Int) = 12 * x + y := ix12 (by omega) (by omega) (by omega) (by omega)
    have lx : ldB D G k x = (if G x = true then 0 else rabs (D.2 7 x)) - sumTo (tkF D G x) k := rfl
    have ly : ldB D G k y = (if G y = true then 0 else rabs (D.2 7 y)) - sumTo (tkF D G y) k := rfl
    have lc : ldC D g c F G k x y = (if lnk D c F x y = true then bnd D g F x y else 0) - sumTo (toG D G x y) k := rfl
    by_cases q : G x = false ∧ G y = false
    · have t1 : ∀ p : Nat, p ≠ x → p ≠ y → tkF D G p k = 0 := fun p h1 h2 => by
        unfold tkF; rw [if_neg (fun z => by rw [hx, hy] at z; omega)]
      have t2 : tkF D G x k = D.2 14 k := by
        unfold tkF; rw [hx, hy, if_pos ⟨Or.inl rfl, q.1, q.2⟩]
      have t3 : tkF D G y k = D.2 14 k := by
        unfold tkF; rw [hx, hy, if_pos ⟨Or.inr rfl, q.1, q.2⟩]
      have t4 : toG D G x y k = D.2 14 k := by
        unfold toG; rw [if_pos ⟨hx, hy, q.1, q.2⟩]
      have t5 : ∀ i j : Nat, ¬ (i = x ∧ j = y) → toG D G i j k = 0 := fun i j h => by
        unfold toG; rw [if_neg (fun z => by rw [hx, hy] at z; omega)]
      refine ⟨((k : Int) + 1, upI (upI (upI τ (t + 2) x (ldB D G k x - D.2 14 k)) (t + 2) y (ldB D G k y - D.2 14 k)) (t + 3) (12 * x + y) (ldC D g c F G k x y - D.2 14 k)), ⟨by show (k : Int) + 1 = _; omega, fun a z h1 h2 => ?_, fun u hu => ?_, fun i j hi hj => ?_⟩, fun nx => ?_⟩
      · show (upI (upI (upI τ _ _ _) _ _ _) _ _ _).1 a z = _
        rw [up_pl h2, up_pl h1, up_pl h1]; exact i2 a z h1 h2
      · show (upI (upI (upI τ _ _ _) _ _ _) _ _ _).1 _ _ = (if G u = true then 0 else rabs (D.2 7 u)) - (sumTo (tkF D G u) k + tkF D G u k)
        rw [up_pl (by omega)]
        by_cases c1 : u = y
        · rw [c1, up_same, t3, ly]; omega
        · rw [up_ix (by omega)]
          by_cases c2 : u = x
          · rw [c2, up_same, t2, lx]; omega
          · rw [up_ix (by omega), i3 u hu, t1 u c2 c1, Int.add_zero]; rfl
      · show (upI (upI (upI τ _ _ _) _ _ _) _ _ _).1 _ _ = (if lnk D c F i j = true then bnd D g F i j else 0) - (sumTo (toG D G i j) k + toG D G i j k)
        by_cases c1 : i = x ∧ j = y
        · rw [c1.1, c1.2, up_same, t4, lc]; omega
        · rw [up_ix (by omega), up_pl (by omega), up_pl (by omega), i4 i j hi hj, t5 i j c1, Int.add_zero]; rfl
      · show F_X1_load_B154 N nx t l w (k : Int) τ = _
        unfold F_X1_load_B154 F_X1_load_J258
        have u1 : (upI τ (t + 2) (x : Int) (ldB D G k x - D.2 14 k)).1 (t + 2) y = ldB D G k y := by rw [up_ix (by omega)]; exact i3 y (by omega)
        have u2 : (upI τ (t + 2) (x : Int) (ldB D G k x - D.2 14 k)).1 (l + 3) k = D.2 14 k := by rw [up_pl (by omega)]; exact e3
        have u3 : (upI (upI τ (t + 2) (x : Int) (ldB D G k x - D.2 14 k)) (t + 2) y (ldB D G k y - D.2 14 k)).1 (t + 3) (12 * x + y) = ldC D g c F G k x y := by rw [up_pl (by omega), up_pl (by omega)]; exact i4 x y (by omega) (by omega)
        have u4 : (upI (upI τ (t + 2) (x : Int) (ldB D G k x - D.2 14 k)) (t + 2) y (ldB D G k y - D.2 14 k)).1 (l + 3) k = D.2 14 k := by rw [up_pl (by omega), up_pl (by omega)]; exact e3
        rw [Lτ.1, if_neg (by omega), inb_in (by omega), e1, e2, e3, hx, hy, if_pos ((tb_test0 (by omega)).mpr (by rw [gx, q.1])), if_pos ((tb_test0 (by omega)).mpr (by rw [gy, q.2])), inb_in (by omega), inb_in (by omega), ix, inb_in (by omega), i3 x (by omega), js_eq (a := ldB D G k x) ⟨by omega, by omega⟩, u1, u2, js_eq (a := ldB D G k y) ⟨by omega, by omega⟩, u3, u4, js_eq (a := ldC D g c F G k x y) ⟨by omega, by omega⟩, ja_1 (by omega) (by omega)]
    · have t1 : ∀ p : Int, tkF D G p k = 0 := fun p => by
        unfold tkF; rw [if_neg (fun z => by rw [hx, hy] at z; exact q z.2)]
      have t2 : ∀ i j : Int, toG D G i j k = 0 := fun i j => by
        unfold toG; rw [if_neg (fun z => by
          rw [← z.1, ← z.2.1, hx, hy] at z
          exact q z.2.2)]
      refine ⟨((k : Int) + 1, τ), ⟨by show (k : Int) + 1 = _; omega, i2, fun u hu => ?_, fun i j hi hj => ?_⟩, fun nx => ?_⟩
      · show τ.1 _ _ = (if G u = true then 0 else rabs (D.2 7 u)) - (sumTo (tkF D G u) k + tkF D G u k)
        rw [t1, Int.add_zero]; exact i3 u hu
      · show τ.1 _ _ = (if lnk D c F i j = true then bnd D g F i j else 0) - (sumTo (toG D G i j) k + toG D G i j k)
        rw [t2, Int.add_zero]; exact i4 i j hi hj
      · show F_X1_load_B154 N nx t l w (k : Int) τ = _
        unfold F_X1_load_B154 F_X1_load_J258
        rw [Lτ.1, if_neg (by omega), inb_in (by omega), e1, e2, hx, hy, ja_1 (by omega) (by omega)]
        by_cases z1 : jand (jshr w (x : Int)) 1 = 0
        · rw [if_pos z1]
          by_cases z2 : jand (jshr w (y : Int)) 1 = 0
          · exfalso
            have a := (tb_test0 (by omega)).mp z1
            have b := (tb_test0 (by omega)).mp z2
            rw [gx] at a; rw [gy] at b
            exact q ⟨a, b⟩
          · rw [if_neg z2]
        · rw [if_neg z1]
  · obtain ⟨u, τ⟩ := q
    obtain ⟨rfl, i2, -⟩ := hI
    have Lτ : LedR τ l D := L.cg (fun a z x y => i2 a z (by omega) (by omega))
    show F_X1_load_B154 N nx t l w (dc D : Int) τ = _
    unfold F_X1_load_B154
    rw [Lτ.1, if_pos (Int.le_refl _)]
end LOAD
