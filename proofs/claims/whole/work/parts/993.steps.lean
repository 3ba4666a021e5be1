/-! STEPS between two members -/
def wkB (P : Int → Int → Int) (m a : Nat) : Nat → Nat → Bool
  | 0, i => decide (i = a)
  | n + 1, i => anyB (fun c => decide (c < (i : Int)) && decide (0 < P c i) && wkB P m a n c.toNat) m
theorem wkB_s {P : Int → Int → Int} {m a n i : Nat} : wkB P m a (n + 1) i = true ↔ ∃ c : Nat, c < m ∧ c < i ∧ 0 < P c i ∧ wkB P m a n c = true := by
  show anyB _ m = true ↔ _
  rw [anyB_iff]
  constructor
  · rintro ⟨c, h1, h2⟩
    rw [Bool.and_eq_true, Bool.and_eq_true, decide_eq_true_iff, decide_eq_true_iff, Int.toNat_natCast] at h2
    exact ⟨c, h1, by omega, h2.1.2, h2.2⟩
  · rintro ⟨c, h1, h2, h3, h4⟩
    refine ⟨c, h1, ?_⟩
    rw [Bool.and_eq_true, Bool.and_eq_true, decide_eq_true_iff, decide_eq_true_iff, Int.toNat_natCast]
    exact ⟨⟨by omega, h3⟩, h4⟩
theorem wkB_ge {P : Int → Int → Int} {m a : Nat} : ∀ {n i : Nat}, wkB P m a n i = true → a + n ≤ i := by
  intro n
  induction n with
  | zero => intro i h; have h : decide (i = a) = true := h; rw [decide_eq_true_iff] at h; omega
  | succ n ih =>
    intro i h
    obtain ⟨c, h1, h2, h3, h4⟩ := wkB_s.mp h
    have := ih h4
    omega
def IsSt (P : Int → Int → Int) (m a i : Nat) (r : Int) : Prop := (∃ n : Nat, n < 8 ∧ r = n ∧ wkB P m a n i = true ∧ ∀ j, j < n → wkB P m a j i = false) ∨ (r = -2 ∧ ∀ n, n < 8 → wkB P m a n i = false)
theorem IsSt.uniq {P : Int → Int → Int} {m a i : Nat} {r r' : Int} (h : IsSt P m a i r) (h' : IsSt P m a i r') : r = r' := by
  rcases h with ⟨n, h1, h2, h3, h4⟩ | ⟨h1, h2⟩
  · rcases h' with ⟨n', g1, g2, g3, g4⟩ | ⟨g1, g2⟩
    · rcases Nat.lt_trichotomy n n' with z | z | z
      · rw [g4 n z] at h3; cases h3
      · rw [h2, g2, z]
      · rw [h4 n' z] at g3; cases g3
    · rw [g2 n h1] at h3; cases h3
  · rcases h' with ⟨n', g1, g2, g3, g4⟩ | ⟨g1, g2⟩
    · rw [h2 n' g1] at g3; cases g3
    · rw [h1, g1]
theorem IsSt.bd {P : Int → Int → Int} {m a i : Nat} {r : Int} (h : IsSt P m a i r) : -2 ≤ r ∧ r ≤ 7 := by
  rcases h with ⟨n, h1, h2, _⟩ | ⟨h1, _⟩ <;> omega
noncomputable def stO (P : Int → Int → Int) (m a i : Nat) : Int := Classical.epsilon (IsSt P m a i)
theorem stO_eq {P : Int → Int → Int} {m a i : Nat} {r : Int} (h : IsSt P m a i r) : stO P m a i = r := (Classical.epsilon_spec (p := IsSt P m a i) ⟨r, h⟩).uniq h
/-- the least of those that lead on -/
def Mn (P : Int → Int → Int) (x k j : Nat) (t : Int) (ds : Nat → Int) (r : Int) : Prop := (r = t ∧ ∀ c, x ≤ c → c < x + j → ¬ (0 ≤ ds c ∧ 0 < P c k)) ∨ ((∃ c, x ≤ c ∧ c < x + j ∧ (0 ≤ ds c ∧ 0 < P c k) ∧ r = ds c + 1) ∧ ∀ c, x ≤ c → c < x + j → (0 ≤ ds c ∧ 0 < P c k) → r ≤ ds c + 1)
theorem Mn_end {P : Int → Int → Int} {m x k : Nat} {ds : Nat → Int} {r : Int} (hm : m ≤ 8) (hk : k < m) (hx : x < k) (hd : ∀ c, c < k → IsSt P m x c (ds c)) (h : Mn P x k (k - x) (-2) ds r) : IsSt P m x k r := by
  rcases h with ⟨h1, h2⟩ | ⟨⟨c, c1, c2, c3, c4⟩, h2⟩
  · refine Or.inr ⟨h1, fun n hn => b_ne (fun q => ?_)⟩
    cases n with
    | zero => have q : decide (k = x) = true := q; rw [decide_eq_true_iff] at q; omega
    | succ n =>
      obtain ⟨c, q1, q2, q3, q4⟩ := wkB_s.mp q
      have g := wkB_ge q4
      refine h2 c (by omega) (by omega) ⟨?_, q3⟩
      rcases hd c q2 with ⟨n', y1, y2, _⟩ | ⟨y1, y2⟩
      · omega
      · rw [y2 n (by omega)] at q4; cases q4
  · rcases hd c (by omega) with ⟨n, y1, y2, y3, y4⟩ | ⟨y1, y2⟩
    · have g := wkB_ge y3
      refine Or.inl ⟨n + 1, by omega, by omega, wkB_s.mpr ⟨c, by omega, by omega, c3.2, y3⟩, fun j hj => b_ne (fun q => ?_)⟩
      cases j with
      | zero => have q : decide (k = x) = true := q; rw [decide_eq_true_iff] at q; omega
      | succ j =>
        obtain ⟨c', q1, q2, q3, q4⟩ := wkB_s.mp q
        have g' := wkB_ge q4
        rcases hd c' q2 with ⟨n', u1, u2, u3, u4⟩ | ⟨u1, u2⟩
        · have le := h2 c' (by omega) (by omega) ⟨by omega, q3⟩
          have : n' ≤ j := by
            rcases Nat.lt_or_ge j n' with z | z
            · rw [u4 j z] at q4; cases q4
            · exact z
          omega
        · rw [u2 j (by omega)] at q4; cases q4
    · omega
section STP
variable {N : Nat} {σ : Sto} {b : Nat} {D : Dk}
theorem k_stepIn (hN : BigN N) (V : Val D) {d : Int} {τ : Sto} (S : ∀ a c : Int, 0 ≤ a → a < dm D → 0 ≤ c → c < dm D → a ≠ c → τ.1 47 (8 * a + c) = pct D d a c) {x k : Nat} {y t : Int} (hx : x < dm D) (hk : k < dm D) (ht : t = -2 ∨ k ≤ x) (ht2 : -2 ≤ t ∧ t ≤ 7) (hd : ∀ c, c < k → -2 ≤ τ.1 51 c ∧ τ.1 51 c ≤ 7) : ∃ τ', (∀ nx2, F_X10_stepsBetween_J26 N nx2 x y k k t τ = nx2 ((k : Int) + 1, τ')) ∧ (∀ (a : Nat) (j : Int), ¬ (a = 51 ∧ j = (k : Int)) → τ'.1 a j = τ.1 a j) ∧ Mn (pct D d) x k (k - x) t (fun c => τ.1 51 c) (τ'.1 51 k) := by
  have vz := V.sz
  obtain ⟨s, ⟨h1, h2, h3⟩, h4⟩ := loop_X (X := (Int × Sto) → Option (Int × Sto)) (b := fun z q nx30 => F_X10_stepsBetween_B30 N z nx30 x y k q.1 q.2) (fin := fun z s => z ((k : Int) + 1, s.2)) (N := N) (s0 := ((x : Int), upI τ 51 k t)) (fun j s => s.1 = (x : Int) + j ∧ (∀ (a : Nat) (i : Int), ¬ (a = 51 ∧ i = (k : Int)) → s.2.1 a i = τ.1 a i) ∧ Mn (pct D d) x k j t (fun c => τ.1 51 c) (s.2.1 51 k)) (k - x) (bigN hN) ⟨by omega, fun a i h => upI_ne h, Or.inl ⟨up_same, fun c c1 c2 => by omega⟩⟩ (fun j s hj hI => by
    obtain ⟨v4, ρ⟩ := s
    obtain ⟨i1, i2, i3⟩ := hI
    have i1 : v4 = ((x + j : Nat) : Int) := by have : v4 = (x : Int) + j := i1; omega
    have hc : x + j < k := by omega
    generalize hcc : x + j = c at *
    subst i1
    have t2 : t = -2 := by omega
    have e1 : ρ.1 51 (c : Int) = τ.1 51 c := i2 _ _ (by omega)
    have b1 := hd c hc
    have ix : ja (jm (c : Int) 8) (k : Int) = 8 * c + k := ix8 (by omega) (by omega) (by omega) (by omega)
    have e2 : ρ.1 47 (8 * (c : Int) + k) = pct D d c k := by
      rw [i2 _ _ (by omega)]
      exact S c k (by omega) (by omega) (by omega) (by omega) (by omega)
    have i3 : Mn (pct D d) x k j t (fun c => τ.1 51 c) (ρ.1 51 k) := i3
    have skip : ¬ (0 ≤ τ.1 51 (c : Int) ∧ 0 < pct D d c k) → Mn (pct D d) x k (j + 1) t (fun c => τ.1 51 c) (ρ.1 51 k) := fun nl => by
      rcases i3 with ⟨z1, z2⟩ | ⟨⟨c', y1, y2, y3, y4⟩, z2⟩
      · refine Or.inl ⟨z1, fun c' y1 y2 => ?_⟩
        by_cases e : c' = c
        · subst e; exact nl
        · exact z2 c' y1 (by omega)
      · refine Or.inr ⟨⟨c', y1, by omega, y3, y4⟩, fun c'' u1 u2 u3 => ?_⟩
        by_cases e : c'' = c
        · subst e; exact absurd u3 nl
        · exact z2 c'' u1 (by omega) u3
    by_cases q1 : τ.1 51 (c : Int) < 0
    · refine ⟨((c : Int) + 1, ρ), ⟨by show (c : Int) + 1 = (x : Int) + ((j + 1 : Nat) : Int); omega, i2, skip (by omega)⟩, fun z nx => ?_⟩
      show F_X10_stepsBetween_B30 N z nx x y k c ρ = _
      unfold F_X10_stepsBetween_B30 F_X10_stepsBetween_J65 F_X10_stepsBetween_J66 F_X10_stepsBetween_J115
      rw [if_neg (by omega), inb_in (by omega), e1, if_pos q1, if_pos rfl, ja_1 (by omega) (by omega)]
    · by_cases q2 : pct D d c k ≤ 0
      · refine ⟨((c : Int) + 1, ρ), ⟨by show (c : Int) + 1 = (x : Int) + ((j + 1 : Nat) : Int); omega, i2, skip (by omega)⟩, fun z nx => ?_⟩
        show F_X10_stepsBetween_B30 N z nx x y k c ρ = _
        unfold F_X10_stepsBetween_B30 F_X10_stepsBetween_J65 F_X10_stepsBetween_J66 F_X10_stepsBetween_J115
        rw [if_neg (by omega), inb_in (by omega), e1, if_neg q1, ix, inb_in (by omega), e2, if_pos q2, if_pos rfl, ja_1 (by omega) (by omega)]
      · have ld : 0 ≤ τ.1 51 (c : Int) ∧ 0 < pct D d c k := by omega
        have ej : ja (τ.1 51 (c : Int)) 1 = τ.1 51 c + 1 := ja_1 (by omega) (by omega)
        by_cases q3 : ρ.1 51 (k : Int) < 0 ∨ τ.1 51 (c : Int) + 1 < ρ.1 51 k
        · refine ⟨((c : Int) + 1, upI ρ 51 k (τ.1 51 c + 1)), ⟨by show (c : Int) + 1 = (x : Int) + ((j + 1 : Nat) : Int); omega, fun a i h => (upI_ne h).trans (i2 a i h), ?_⟩, fun z nx => ?_⟩
          · show Mn (pct D d) x k (j + 1) t (fun c => τ.1 51 c) ((upI ρ 51 k (τ.1 51 c + 1)).1 51 k)
            rw [up_same]
            refine Or.inr ⟨⟨c, by omega, by omega, ld, rfl⟩, fun c' u1 u2 u3 => ?_⟩
            by_cases e : c' = c
            · subst e; exact Int.le_refl _
            · rcases i3 with ⟨z1, z2⟩ | ⟨⟨c2, y1, y2, y3, y4⟩, z2⟩
              · exact absurd u3 (z2 c' u1 (by omega))
              · have := z2 c' u1 (by omega) u3
                have y3 := y3.1
                have y4 : ρ.1 51 (k : Int) = τ.1 51 c2 + 1 := y4
                have : ρ.1 51 (k : Int) ≤ τ.1 51 c' + 1 := this
                have y3 : 0 ≤ τ.1 51 (c2 : Int) := y3
                show τ.1 51 (c : Int) + 1 ≤ τ.1 51 (c' : Int) + 1
                omega
          · show F_X10_stepsBetween_B30 N z nx x y k c ρ = _
            unfold F_X10_stepsBetween_B30 F_X10_stepsBetween_J66 F_X10_stepsBetween_J100 F_X10_stepsBetween_J115
            rw [if_neg (by omega), inb_in (by omega), e1, if_neg q1, ix, inb_in (by omega), e2, if_neg q2, if_neg (by decide), inb_in (by omega), inb_in (by omega), inb_in (by omega), ej, ja_1 (k := (c : Int)) (by omega) (by omega)]
            by_cases q4 : ρ.1 51 (k : Int) < 0
            · rw [if_pos q4]
            · rw [if_neg q4, if_neg (by omega), inb_in (by omega)]
        · have b2 : 0 ≤ ρ.1 51 (k : Int) ∧ ρ.1 51 (k : Int) ≤ τ.1 51 c + 1 := by omega
          refine ⟨((c : Int) + 1, ρ), ⟨by show (c : Int) + 1 = (x : Int) + ((j + 1 : Nat) : Int); omega, i2, ?_⟩, fun z nx => ?_⟩
          · show Mn (pct D d) x k (j + 1) t (fun c => τ.1 51 c) (ρ.1 51 k)
            rcases i3 with ⟨z1, z2⟩ | ⟨⟨c2, y1, y2, y3, y4⟩, z2⟩
            · omega
            · refine Or.inr ⟨⟨c2, y1, by omega, y3, y4⟩, fun c' u1 u2 u3 => ?_⟩
              by_cases e : c' = c
              · subst e; exact b2.2
              · exact z2 c' u1 (by omega) u3
          · show F_X10_stepsBetween_B30 N z nx x y k c ρ = _
            unfold F_X10_stepsBetween_B30 F_X10_stepsBetween_J66 F_X10_stepsBetween_J115
            rw [if_neg (by omega), inb_in (by omega), e1, if_neg q1, ix, inb_in (by omega), e2, if_neg q2, if_neg (by decide), inb_in (by omega), if_neg (by omega), inb_in (by omega), ej, if_pos b2.2, ja_1 (k := (c : Int)) (by omega) (by omega)]) (fun s hI z nx => by
    obtain ⟨v4, ρ⟩ := s
    have i1 : v4 = (x : Int) + ((k - x : Nat) : Int) := hI.1
    show F_X10_stepsBetween_B30 N z nx x y k v4 ρ = z ((k : Int) + 1, ρ)
    unfold F_X10_stepsBetween_B30 F_X10_stepsBetween_J121
    rw [if_pos (by omega), ja_1 (by omega) (by omega)])
  refine ⟨s.2, fun nx2 => ?_, h2, h3⟩
  unfold F_X10_stepsBetween_J26
  rw [inb_in (by omega)]
  exact h4 nx2
theorem k_steps (hN : BigN N) (V : Val D) {d : Int} (S : ShrR σ D d) {x y : Nat} (hx : x < dm D) (hy : y < dm D) : ∃ σ', F_X10_stepsBetween N x y σ = some (stO (pct D d) (dm D) x y, σ') := by
  have vz := V.sz
  unfold F_X10_stepsBetween
  obtain ⟨s, ⟨h1, h2, h3⟩, h4⟩ := loop_A (b := fun q nx2 => F_X10_stepsBetween_B2 N nx2 x y q.1 q.2) (fin := fun s => some (s.2.1 51 y, s.2)) (N := N) (s0 := ((0 : Int), σ)) (fun k s => s.1 = k ∧ (∀ a j, a ≠ 51 → s.2.1 a j = σ.1 a j) ∧ ∀ i : Nat, i < k → IsSt (pct D d) (dm D) x i (s.2.1 51 i)) (dm D) (bigN hN) ⟨rfl, fun _ _ _ => rfl, fun i h => by omega⟩ (fun k s hk hI => by
    obtain ⟨v3, τ⟩ := s
    obtain ⟨i1, i2, i3⟩ := hI
    have i1 : v3 = k := i1
    subst i1
    have S2 : ∀ a c : Int, 0 ≤ a → a < dm D → 0 ≤ c → c < dm D → a ≠ c → τ.1 47 (8 * a + c) = pct D d a c := fun a c p1 p2 p3 p4 p5 => by rw [i2 _ _ (by decide)]; exact S.2.1 a c p1 p2 p3 p4 p5
    have S3 : τ.1 46 5 = (dm D : Int) := (i2 _ _ (by decide)).trans S.1
    obtain ⟨τ', a1, a2, a3⟩ := k_stepIn (t := if (k : Int) = x then 0 else -2) (y := (y : Int)) hN V S2 hx hk (by split <;> omega) (by split <;> omega) (fun c hc => (i3 c hc).bd)
    refine ⟨((k : Int) + 1, τ'), ⟨by show (k : Int) + 1 = ((k + 1 : Nat) : Int); omega, fun a j h => (a2 a j (fun z => h z.1)).trans (i2 a j h), fun i hi => ?_⟩, fun nx => ?_⟩
    · show IsSt (pct D d) (dm D) x i (τ'.1 51 i)
      by_cases e : i = k
      · subst e
        rcases Nat.lt_trichotomy i x with z | z | z
        · rw [if_neg (by omega)] at a3
          rcases a3 with ⟨u1, _⟩ | ⟨⟨c, u1, u2, _⟩, _⟩
          · exact Or.inr ⟨u1, fun n hn => b_ne (fun q => by have := wkB_ge q; omega)⟩
          · omega
        · subst z
          rw [if_pos rfl] at a3
          rcases a3 with ⟨u1, _⟩ | ⟨⟨c, u1, u2, _⟩, _⟩
          · exact Or.inl ⟨0, by omega, u1, decide_eq_true rfl, fun j hj => by omega⟩
          · omega
        · rw [if_neg (by omega)] at a3
          exact Mn_end vz.1 hk z (fun c hc => i3 c hc) a3
      · rw [a2 _ _ (by omega)]
        exact i3 i (by omega)
    · show F_X10_stepsBetween_B2 N nx x y k τ = _
      unfold F_X10_stepsBetween_B2
      rw [S3, if_neg (by omega)]
      by_cases e : (k : Int) = x
      · rw [if_pos e]; rw [if_pos e] at a1; exact a1 nx
      · rw [if_neg e]; rw [if_neg e] at a1; exact a1 nx) (fun s hI nx => by
    obtain ⟨v3, τ⟩ := s
    obtain ⟨i1, i2, i3⟩ := hI
    have i1 : v3 = (dm D : Int) := i1
    show F_X10_stepsBetween_B2 N nx x y v3 τ = some (τ.1 51 y, τ)
    unfold F_X10_stepsBetween_B2 F_X10_stepsBetween_J127
    rw [show τ.1 46 5 = (dm D : Int) from (i2 _ _ (by decide)).trans S.1, i1, if_pos (Int.le_refl _), inb_in (by omega)])
  exact ⟨s.2, by rw [h4, stO_eq (h3 y hy)]⟩
noncomputable def rSteps (D : Dk) (x y d : Int) : Int := if (isM D x ∧ isM D y) ∧ isD d then stO (pct D d) (dm D) x.toNat y.toNat else -1
theorem x_steps (hN : BigN N) (V : Val D) (X : XC σ b D) (x y d : Int) : QX σ b D (F_X11_steps N x y d σ) (rSteps D x y d) := by
  have vz := V.sz
  unfold F_X11_steps rSteps
  rw [k_areMembers X, Option.bind_some]
  by_cases h1 : isM D x ∧ isM D y
  · rw [if_pos h1, if_neg (by decide), k_isDay, Option.bind_some]
    by_cases h2 : isD d
    · obtain ⟨σ1, a1, a2, a3, a4⟩ := k_sh hN V X d
      obtain ⟨p, rfl⟩ : ∃ p : Nat, x = p := ⟨x.toNat, by omega⟩
      obtain ⟨q, rfl⟩ : ∃ q : Nat, y = q := ⟨y.toNat, by omega⟩
      obtain ⟨σ2, b1⟩ := k_steps hN V a2 (x := p) (y := q) (by omega) (by omega)
      have f := fr_X10_stepsBetween b1
      have f1 : ∀ a j, a ≠ 51 → σ2.1 a j = σ1.1 a j := fun a j h => f.1 a j h
      have f2 : ∀ a j, a ≠ 51 → σ2.2 a j = σ1.2 a j := fun a j h => f.2 a j h
      rw [if_pos h2, if_neg (by decide), if_pos ⟨h1, h2⟩, X.at, a1, Option.bind_some, b1, Option.bind_some]
      exact ⟨σ2, rfl, a3.cg (fun a j h => f1 a j (by omega)) (a3.2.2.2.2.1.cg (fun j => f1 _ _ (by decide)) (fun j => f2 _ _ (by decide))), a4.tr (fun a j h => f1 a j (by omega))⟩
    · rw [if_neg h2, if_pos rfl, if_neg (fun z => h2 z.2)]; exact QX.same X rfl
  · rw [if_neg h1, if_pos rfl, if_neg (fun z => h1 z.1)]; exact QX.same X rfl
theorem m_level (hN : BigN N) (V : Val D) (M : ModR σ D) (d S y : Int) {k : Nat} (hk : k < 8) : ∃ T, inR T ∧ (∀ i, i < 32 → (tb T i = true ↔ i < dm D ∧ ∃ c : Nat, c < i ∧ 0 < pct D d c i ∧ tb S c = true)) ∧ ∀ nx31, loopK (fun q nx57 => F_X12_steps_B57 N nx31 nx57 y d S k q.1 q.2 σ) N (0, 0) = nx31 (T, (k : Int) + 1) := by
  have vz := V.sz
  have e11 : σ.1 94 11 = dm D := M.1.1.1
  have inner : ∀ (c : Nat) (u : Int), c < dm D → inR u → ∃ u', inR u' ∧ (∀ i, i < 32 → (tb u' i = true ↔ tb u i = true ∨ (c < i ∧ i < dm D ∧ 0 < pct D d c i ∧ tb S c = true))) ∧ ∀ x : ((Int × Int) → Option (Int × Sto)) × ((Int × Int) → Option (Int × Sto)), loopK (fun q nx72 => F_X12_steps_B72 N x.1 x.2 nx72 y d S k c q.1 q.2 σ) N (u, ja (c : Int) 1) = x.2 (u', (c : Int) + 1) := fun c u hc hu => by
    obtain ⟨s, ⟨h1, h2, h3⟩, h4⟩ := loop_X (X := ((Int × Int) → Option (Int × Sto)) × ((Int × Int) → Option (Int × Sto))) (b := fun x q nx72 => F_X12_steps_B72 N x.1 x.2 nx72 y d S k c q.1 q.2 σ) (fin := fun x s => x.2 (s.1, (c : Int) + 1)) (N := N) (s0 := (u, ja (c : Int) 1)) (fun j s => s.2 = (c : Int) + 1 + j ∧ inR s.1 ∧ ∀ i, i < 32 → (tb s.1 i = true ↔ tb u i = true ∨ (c < i ∧ i < c + 1 + j ∧ 0 < pct D d c i ∧ tb S c = true))) (dm D - (c + 1)) (bigN hN) ⟨by show ja (c : Int) 1 = _; rw [ja_1 (by omega) (by omega)]; omega, hu, fun i hi => ⟨fun q => Or.inl q, fun q => q.elim id (fun z => by omega)⟩⟩ (fun j s hj hI => by
      obtain ⟨v, w⟩ := s
      obtain ⟨i1, i2, i3⟩ := hI
      have i1 : w = ((c + 1 + j : Nat) : Int) := by have : w = (c : Int) + 1 + j := i1; omega
      generalize he : c + 1 + j = e at *
      subst i1
      have i2 : inR v := i2
      have tS := tb_test1 (x := S) (k := c) (by omega)
      by_cases q : tb S c = true ∧ 0 < pct D d c e
      · refine ⟨(jor v (jshl 1 (e : Int)), (e : Int) + 1), ⟨by show (e : Int) + 1 = (c : Int) + 1 + ((j + 1 : Nat) : Int); omega, jor_R _ _, fun i hi => ?_⟩, fun x nx => ?_⟩
        · show tb (jor v (jshl 1 (e : Int))) i = true ↔ _
          rw [tb_or, tb_sh1 (by omega) hi, Bool.or_eq_true, decide_eq_true_iff]
          have := i3 i hi
          constructor
          · rintro (z | z)
            · rcases this.mp z with z | z
              · exact Or.inl z
              · exact Or.inr ⟨z.1, by omega, z.2.2⟩
            · subst z; exact Or.inr ⟨by omega, by omega, q.2, q.1⟩
          · rintro (z | ⟨z1, z2, z3⟩)
            · exact Or.inl (this.mpr (Or.inl z))
            · by_cases y : i = e
              · exact Or.inr y
              · exact Or.inl (this.mpr (Or.inr ⟨z1, by omega, z3⟩))
        · show F_X12_steps_B72 N x.1 x.2 nx y d S k c v e σ = _
          unfold F_X12_steps_B72 F_X12_steps_J114
          rw [e11, if_neg (by omega), if_pos (tS.mpr q.1), m_percentOf hN M V, Option.bind_some, if_neg (by omega), ja_1 (by omega) (by omega)]
      · refine ⟨(v, (e : Int) + 1), ⟨by show (e : Int) + 1 = (c : Int) + 1 + ((j + 1 : Nat) : Int); omega, i2, fun i hi => ?_⟩, fun x nx => ?_⟩
        · show tb v i = true ↔ _
          have := i3 i hi
          constructor
          · intro z
            rcases this.mp z with z | z
            · exact Or.inl z
            · exact Or.inr ⟨z.1, by omega, z.2.2⟩
          · rintro (z | ⟨z1, z2, z3, z4⟩)
            · exact this.mpr (Or.inl z)
            · by_cases y : i = e
              · subst y; exact absurd ⟨z4, z3⟩ q
              · exact this.mpr (Or.inr ⟨z1, by omega, z3, z4⟩)
        · show F_X12_steps_B72 N x.1 x.2 nx y d S k c v e σ = _
          unfold F_X12_steps_B72 F_X12_steps_J113 F_X12_steps_J114
          rw [e11, if_neg (by omega), m_percentOf hN M V, Option.bind_some, jor_0 i2, ja_1 (by omega) (by omega)]
          by_cases q1 : tb S c = true
          · rw [if_pos (tS.mpr q1), if_pos (by have : ¬ 0 < pct D d c e := fun z => q ⟨q1, z⟩; omega)]
          · rw [if_neg (fun z => q1 (tS.mp z))]) (fun s hI x nx => by
      obtain ⟨v, w⟩ := s
      have i1 : w = (c : Int) + 1 + ((dm D - (c + 1) : Nat) : Int) := hI.1
      show F_X12_steps_B72 N x.1 x.2 nx y d S k c v w σ = x.2 (v, (c : Int) + 1)
      unfold F_X12_steps_B72 F_X12_steps_J123
      rw [e11, if_pos (by omega), ja_1 (by omega) (by omega)])
    refine ⟨s.1, h2, fun i hi => ?_, h4⟩
    have := h3 i hi
    constructor
    · intro z
      rcases this.mp z with z | z
      · exact Or.inl z
      · exact Or.inr ⟨z.1, by omega, z.2.2⟩
    · rintro (z | z)
      · exact this.mpr (Or.inl z)
      · exact this.mpr (Or.inr ⟨z.1, by omega, z.2.2⟩)
  obtain ⟨s, ⟨h1, h2, h3⟩, h4⟩ := loop_X (X := (Int × Int) → Option (Int × Sto)) (b := fun x q nx57 => F_X12_steps_B57 N x nx57 y d S k q.1 q.2 σ) (fin := fun x s => x (s.1, (k : Int) + 1)) (N := N) (s0 := ((0 : Int), (0 : Int))) (fun c s => s.2 = c ∧ inR s.1 ∧ ∀ i, i < 32 → (tb s.1 i = true ↔ i < dm D ∧ ∃ c' : Nat, c' < c ∧ c' < i ∧ 0 < pct D d c' i ∧ tb S c' = true)) (dm D) (bigN hN) ⟨rfl, isB.r (Or.inl rfl), fun i hi => ⟨fun z => (by rw [tb_0] at z; cases z), fun z => (by obtain ⟨c', z, _⟩ := z.2; omega)⟩⟩ (fun c s hc hI => by
    obtain ⟨u, w⟩ := s
    obtain ⟨i1, i2, i3⟩ := hI
    have i1 : w = c := i1
    subst i1
    obtain ⟨u', b1, b2, b3⟩ := inner c u hc i2
    refine ⟨(u', (c : Int) + 1), ⟨by show (c : Int) + 1 = ((c + 1 : Nat) : Int); omega, b1, fun i hi => ?_⟩, fun x nx => ?_⟩
    · show tb u' i = true ↔ _
      rw [b2 i hi, i3 i hi]
      constructor
      · rintro (⟨z1, c', z2, z3⟩ | ⟨z1, z2, z3, z4⟩)
        · exact ⟨z1, c', by omega, z3⟩
        · exact ⟨z2, c, by omega, z1, z3, z4⟩
      · rintro ⟨z1, c', z2, z3, z4⟩
        by_cases e : c' = c
        · subst e; exact Or.inr ⟨z3, z1, z4⟩
        · exact Or.inl ⟨z1, c', by omega, z3, z4⟩
    · show F_X12_steps_B57 N x nx y d S k u c σ = _
      unfold F_X12_steps_B57
      rw [e11, if_neg (by omega)]
      exact b3 (x, nx)) (fun s hI x nx => by
    obtain ⟨u, w⟩ := s
    have i1 : w = (dm D : Int) := hI.1
    show F_X12_steps_B57 N x nx y d S k u w σ = x (u, (k : Int) + 1)
    unfold F_X12_steps_B57 F_X12_steps_J129
    rw [e11, i1, if_pos (Int.le_refl _), ja_1 (by omega) (by omega)])
  refine ⟨s.1, h2, fun i hi => ?_, h4⟩
  rw [h3 i hi]
  constructor
  · rintro ⟨z1, c, z2, z3⟩; exact ⟨z1, c, z3⟩
  · rintro ⟨z1, c, z2, z3⟩; exact ⟨z1, c, by omega, z2, z3⟩
theorem m_steps (hN : BigN N) (V : Val D) (M : MK σ D) (x y d : Int) : QM σ D (F_X12_steps N x y d σ) (rSteps D x y d) := by
  have vz := V.sz
  obtain ⟨M', m'⟩ := M.up2 V 0
  unfold F_X12_steps rSteps
  rw [m_areMembers M'.1, Option.bind_some]
  by_cases h1 : isM D x ∧ isM D y
  · rw [if_pos h1, if_neg (by decide), m_isDay, Option.bind_some]
    by_cases h2 : isD d
    · rw [if_pos h2, if_neg (by decide), if_pos ⟨h1, h2⟩]
      obtain ⟨p, rfl⟩ : ∃ p : Nat, x = p := ⟨x.toNat, by omega⟩
      obtain ⟨q, rfl⟩ : ∃ q : Nat, y = q := ⟨y.toNat, by omega⟩
      obtain ⟨r, r1, r2⟩ := loop_E (X := Unit) (R' := Int) (b := fun _ s nx31 => F_X12_steps_B31 N nx31 q d s.1 s.2 (upI σ 94 2 0)) (fin := fun _ r => some (r, upI σ 94 2 0)) (N := N) (s0 := (jshl 1 (p : Int), (0 : Int))) (fun k s => s.2 = k ∧ inR s.1 ∧ (∀ i, i < 32 → (tb s.1 i = true ↔ i < dm D ∧ wkB (pct D d) (dm D) p k i = true)) ∧ ∀ j, j < k → wkB (pct D d) (dm D) p j q = false) (IsSt (pct D d) (dm D) p q) 8 (bigN hN) ⟨rfl, jshl_R _ _, fun i hi => by
        show tb (jshl 1 (p : Int)) i = true ↔ i < dm D ∧ decide (i = p) = true
        rw [tb_sh1 (by omega) hi, decide_eq_true_iff]
        constructor
        · rintro rfl; exact ⟨by omega, rfl⟩
        · rintro ⟨_, z⟩; exact z, fun j h => by omega⟩ (fun k s hk hI => by
        obtain ⟨u, w⟩ := s
        obtain ⟨i1, i2, i3, i4⟩ := hI
        have i1 : w = k := i1
        subst i1
        have t := tb_test1 (x := u) (k := q) (by omega)
        by_cases e8 : k = 8
        · refine Or.inr ⟨-2, Or.inr ⟨rfl, fun n hn => i4 n (by omega)⟩, fun _ nx => ?_⟩
          show F_X12_steps_B31 N nx q d u k (upI σ 94 2 0) = _
          unfold F_X12_steps_B31
          rw [if_pos (by omega)]
        · by_cases hb : tb u q = true
          · refine Or.inr ⟨k, Or.inl ⟨k, by omega, rfl, ((i3 q (by omega)).mp hb).2, i4⟩, fun _ nx => ?_⟩
            show F_X12_steps_B31 N nx q d u k (upI σ 94 2 0) = _
            unfold F_X12_steps_B31
            rw [if_neg (by omega), if_pos (t.mpr hb)]
          · obtain ⟨T, t1, t2, t3⟩ := m_level hN V M'.1 d u (q : Int) (k := k) (by omega)
            refine Or.inl ⟨by omega, (T, (k : Int) + 1), ⟨by show (k : Int) + 1 = ((k + 1 : Nat) : Int); omega, t1, fun i hi => ?_, fun j hj => ?_⟩, fun _ nx => ?_⟩
            · show tb T i = true ↔ i < dm D ∧ wkB (pct D d) (dm D) p (k + 1) i = true
              rw [t2 i hi, wkB_s]
              constructor
              · rintro ⟨z1, c, z2, z3, z4⟩
                have := (i3 c (by omega)).mp z4
                exact ⟨z1, c, this.1, z2, z3, this.2⟩
              · rintro ⟨z1, c, z2, z3, z4, z5⟩
                exact ⟨z1, c, z3, z4, (i3 c (by omega)).mpr ⟨z2, z5⟩⟩
            · by_cases e : j = k
              · subst e
                refine b_ne (fun z => hb ((i3 q (by omega)).mpr ⟨by omega, z⟩))
              · exact i4 j (by omega)
            · show F_X12_steps_B31 N nx q d u k (upI σ 94 2 0) = _
              unfold F_X12_steps_B31
              rw [if_neg (by omega), if_neg (fun z => hb (t.mp z))]
              exact t3 nx)
      refine ⟨_, (r2 ()).trans ?_, M', m'⟩
      show some (r, upI σ 94 2 0) = some (stO (pct D d) (dm D) p q, upI σ 94 2 0)
      rw [stO_eq r1]
    · rw [if_neg h2, if_pos rfl, if_neg (fun z => h2 z.2)]; exact QM.same V M rfl
  · rw [if_neg h1, if_pos rfl, if_neg (fun z => h1 z.1)]; exact QM.same V M rfl
end STP
