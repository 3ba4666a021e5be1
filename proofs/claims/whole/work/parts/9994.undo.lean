/-! UNDO: what a row of the history undoes, what a bank keeps -/
def SameT (D E : Dk) : Prop := (dm E = dm D ∧ dp E = dp D) ∧ ∀ r, r ≤ 6 → E.2 r = D.2 r
def ClE (D E : Dk) : Prop := dc E = dc D ∧ ∀ x : Int, 0 ≤ x → x < dc D → E.2 12 x = D.2 12 x ∧ E.2 13 x = D.2 13 x ∧ E.2 14 x = D.2 14 x
def OwE (D E : Dk) : Prop := dn E = dn D ∧ ∀ x : Int, 0 ≤ x → x < dn D → E.2 8 x = D.2 8 x ∧ E.2 9 x = D.2 9 x ∧ E.2 10 x = D.2 10 x ∧ E.2 11 x = D.2 11 x
def ReE (D E : Dk) : Prop := ∀ p : Int, 0 ≤ p → p < dp D → E.2 7 p = D.2 7 p
/-- from D back to E, by a row -/
def InvR (k a b c d : Int) (D E : Dk) : Prop :=
  (k = 0 ∧ ((dc E : Int) = dc D - a ∧ dc E ≤ dc D ∧ ∀ x : Int, 0 ≤ x → x < dc E → E.2 12 x = D.2 12 x ∧ E.2 13 x = D.2 13 x ∧ E.2 14 x = D.2 14 x) ∧ OwE D E ∧ ReE D E) ∨
  (k = 1 ∧ (dc E = dc D + 1 ∧ 0 ≤ a ∧ a ≤ dc D ∧ (E.2 12 a = b ∧ E.2 13 a = c ∧ E.2 14 a = d) ∧ (∀ x : Int, 0 ≤ x → x < a → E.2 12 x = D.2 12 x ∧ E.2 13 x = D.2 13 x ∧ E.2 14 x = D.2 14 x) ∧ ∀ x : Int, a < x → x < dc E → E.2 12 x = D.2 12 (x - 1) ∧ E.2 13 x = D.2 13 (x - 1) ∧ E.2 14 x = D.2 14 (x - 1)) ∧ OwE D E ∧ ReE D E) ∨
  (k = 2 ∧ (isP D a ∧ E.2 7 a = b ∧ ∀ p : Int, 0 ≤ p → p < dp D → p ≠ a → E.2 7 p = D.2 7 p) ∧ ClE D E ∧ OwE D E) ∨
  (k = 3 ∧ (dn D = dn E + 1 ∧ ∀ x : Int, 0 ≤ x → x < dn E → E.2 8 x = D.2 8 x ∧ E.2 9 x = D.2 9 x ∧ E.2 10 x = D.2 10 x ∧ E.2 11 x = D.2 11 x) ∧ ClE D E ∧ ReE D E)
abbrev hw (σ : Sto) (k : Nat) (x : Int) : Int := σ.1 34 (5 * (k : Int) + x)
def UndI (σ : Sto) (u : Nat) (Ds : Nat → Dk) (D : Dk) : Prop := u ≤ 20 ∧ σ.1 33 1 = u ∧ σ.1 94 25 = u ∧ Ds u = D ∧ ∀ k : Nat, k < u → Val (Ds k) ∧ GdD (Ds k) ∧ SameT D (Ds k) ∧ BkM σ (3 + k) (Ds k) ∧ InvR (hw σ k 0) (hw σ k 1) (hw σ k 2) (hw σ k 3) (hw σ k 4) (Ds (k + 1)) (Ds k)
/-- how many are kept when one more comes -/
def kpt (u : Nat) : Nat := if u < 20 then u else 19
def sft (u k : Nat) : Nat := if u < 20 then k else k + 1
/-- the class has written a row more -/
def PshX (σ σ' : Sto) (k a b c d : Int) : Prop := ∀ u : Nat, u ≤ 20 → σ.1 33 1 = u → σ'.1 33 1 = ((kpt u + 1 : Nat) : Int) ∧ (hw σ' (kpt u) 0 = k ∧ hw σ' (kpt u) 1 = a ∧ hw σ' (kpt u) 2 = b ∧ hw σ' (kpt u) 3 = c ∧ hw σ' (kpt u) 4 = d) ∧ ∀ i : Nat, i < kpt u → ∀ x : Int, 0 ≤ x → x < 5 → hw σ' i x = hw σ (sft u i) x
/-- the reference has kept a bank more -/
def PshM (σ σ' : Sto) : Prop := ∀ u : Nat, u ≤ 20 → σ.1 94 25 = u → σ'.1 94 25 = ((kpt u + 1 : Nat) : Int) ∧ (∀ x : Int, 0 ≤ x → x < 200 → σ'.1 101 (200 * (3 + (kpt u : Int)) + x) = σ.1 101 x) ∧ ∀ i : Nat, i < kpt u → ∀ x : Int, 0 ≤ x → x < 200 → σ'.1 101 (200 * (3 + (i : Int)) + x) = σ.1 101 (200 * (3 + (sft u i : Int)) + x)
theorem SameT.tr {D E F : Dk} (h : SameT D E) (h' : SameT E F) : SameT D F := ⟨⟨h'.1.1.trans h.1.1, h'.1.2.trans h.1.2⟩, fun r q => (h'.2 r q).trans (h.2 r q)⟩
theorem SameT.sy {D E : Dk} (h : SameT D E) : SameT E D := ⟨⟨h.1.1.symm, h.1.2.symm⟩, fun r q => (h.2 r q).symm⟩
theorem SameT.rf {D : Dk} : SameT D D := ⟨⟨rfl, rfl⟩, fun _ _ => rfl⟩
theorem Sm.sameT {D E : Dk} (h : Sm D E) : SameT D E := ⟨⟨h.1.1, h.1.2.1⟩, fun r q => h.2 r (by omega)⟩
theorem UndI.push {σ σ1 σ2 : Sto} {u : Nat} {Ds : Nat → Dk} {D D' : Dk} (H : UndI σ u Ds D) (V : Val D) (K : GdD D) (B : BkM σ1 0 D) {k a b c d : Int} (hx : PshX σ σ1 k a b c d) (e1 : ∀ z, σ1.1 94 z = σ.1 94 z) (e2 : ∀ z, σ1.1 101 z = σ.1 101 z) (hm : PshM σ1 σ2) (e3 : ∀ z, σ2.1 33 z = σ1.1 33 z) (e4 : ∀ z, σ2.1 34 z = σ1.1 34 z) (hI : InvR k a b c d D' D) (hT : SameT D' D) : UndI σ2 (kpt u + 1) (fun i => if i = kpt u + 1 then D' else Ds (sft u i)) D' := by
  obtain ⟨h1, h2, h3, h4, h5⟩ := H
  obtain ⟨x1, x2, x3⟩ := hx u h1 h2
  obtain ⟨m1, m2, m3⟩ := hm u h1 ((e1 25).trans h3)
  have hk : kpt u ≤ 19 := by unfold kpt; split <;> omega
  have hs : sft u (kpt u) = u := by unfold sft kpt; split <;> omega
  have hsl : ∀ i, i < kpt u → sft u i < u ∧ sft u (i + 1) = sft u i + 1 := fun i hi => by
    unfold kpt at hi
    unfold sft
    split <;> split at hi <;> omega
  refine ⟨by omega, (e3 1).trans x1, m1, if_pos rfl, fun i hi => ?_⟩
  have en : (if i = kpt u + 1 then D' else Ds (sft u i)) = Ds (sft u i) := if_neg (by omega)
  have w : ∀ x : Int, hw σ2 i x = hw σ1 i x := fun x => e4 _
  show Val (if i = kpt u + 1 then D' else Ds (sft u i)) ∧ GdD (if i = kpt u + 1 then D' else Ds (sft u i)) ∧ SameT D' (if i = kpt u + 1 then D' else Ds (sft u i)) ∧ BkM σ2 (3 + i) (if i = kpt u + 1 then D' else Ds (sft u i)) ∧ InvR (hw σ2 i 0) (hw σ2 i 1) (hw σ2 i 2) (hw σ2 i 3) (hw σ2 i 4) (if i + 1 = kpt u + 1 then D' else Ds (sft u (i + 1))) (if i = kpt u + 1 then D' else Ds (sft u i))
  rw [en, w, w, w, w, w]
  by_cases e : i = kpt u
  · subst e
    rw [if_pos rfl, hs, h4, x2.1, x2.2.1, x2.2.2.1, x2.2.2.2.1, x2.2.2.2.2]
    exact ⟨V, K, hT, BkM.cp (f := 0) V B (fun x x0 x1 => by rw [m2 x x0 x1, Int.mul_zero, Int.zero_add]), hI⟩
  · have hi' : i < kpt u := by omega
    obtain ⟨q1, q2⟩ := hsl i hi'
    obtain ⟨v1, v2, v3, v4, v5⟩ := h5 _ q1
    rw [if_neg (by omega), q2, x3 i hi' 0 (by omega) (by omega), x3 i hi' 1 (by omega) (by omega), x3 i hi' 2 (by omega) (by omega), x3 i hi' 3 (by omega) (by omega), x3 i hi' 4 (by omega) (by omega)]
    exact ⟨v1, v2, hT.tr v3, BkM.cp (f := 3 + (sft u i : Int)) v1 v4 (fun x x0 x1 => by rw [m3 i hi' x x0 x1, e2]), v5⟩
section UND
variable {N : Nat} {σ : Sto} {b : Nat} {D : Dk}
theorem k_push (hN : BigN N) {u : Nat} (hu : u ≤ 20) (h : σ.1 33 1 = u) (k a b c d : Int) : ∃ σ', F_X2_push N k a b c d σ = some σ' ∧ PshX σ σ' k a b c d ∧ (∀ y z, y ≠ 33 → y ≠ 34 → σ'.1 y z = σ.1 y z) ∧ σ'.2 = σ.2 := by
  have key : ∀ (τ : Sto) (q : Nat), q < 20 → τ.1 33 1 = q → ∃ σ', F_X2_push_J30 N k a b c d τ = some σ' ∧ σ'.1 33 1 = ((q + 1 : Nat) : Int) ∧ (hw σ' q 0 = k ∧ hw σ' q 1 = a ∧ hw σ' q 2 = b ∧ hw σ' q 3 = c ∧ hw σ' q 4 = d) ∧ (∀ i : Nat, i < q → ∀ x : Int, 0 ≤ x → x < 5 → hw σ' i x = hw τ i x) ∧ (∀ y z, y ≠ 33 → y ≠ 34 → σ'.1 y z = τ.1 y z) ∧ σ'.2 = τ.2 := fun τ q hq h => by
    have p1 : ∀ (ρ : Sto) (j v i : Int), (upI ρ 34 j v).1 33 i = ρ.1 33 i := fun _ _ _ _ => up_pl (by decide)
    have ix : jm (q : Int) 5 = 5 * q := by rw [jm_eq ⟨by omega, by omega⟩]; omega
    have i1 : ja (5 * (q : Int)) 1 = 5 * q + 1 := ja_eq ⟨by omega, by omega⟩
    have i2 : ja (5 * (q : Int)) 2 = 5 * q + 2 := ja_eq ⟨by omega, by omega⟩
    have i3 : ja (5 * (q : Int)) 3 = 5 * q + 3 := ja_eq ⟨by omega, by omega⟩
    have i4 : ja (5 * (q : Int)) 4 = 5 * q + 4 := ja_eq ⟨by omega, by omega⟩
    unfold F_X2_push_J30
    simp only [p1, h, ix, i1, i2, i3, i4]
    rw [inb_in (by omega), inb_in (by omega), inb_in (by omega), inb_in (by omega), inb_in (by omega), ja_1 (by omega) (by omega)]
    refine ⟨_, rfl, by rw [up_same]; omega, ⟨?_, ?_, ?_, ?_, ?_⟩, fun i hi x x0 x1 => ?_, fun y z y1 y2 => ?_, rfl⟩
    · show (upI _ 33 1 _).1 34 _ = k
      rw [up_pl (by decide), up_ix (by omega), up_ix (by omega), up_ix (by omega), up_ix (by omega), Int.add_zero, up_same]
    · show (upI _ 33 1 _).1 34 _ = a
      rw [up_pl (by decide), up_ix (by omega), up_ix (by omega), up_ix (by omega), up_same]
    · show (upI _ 33 1 _).1 34 _ = b
      rw [up_pl (by decide), up_ix (by omega), up_ix (by omega), up_same]
    · show (upI _ 33 1 _).1 34 _ = c
      rw [up_pl (by decide), up_ix (by omega), up_same]
    · show (upI _ 33 1 _).1 34 _ = d
      rw [up_pl (by decide), up_same]
    · show (upI _ 33 1 _).1 34 _ = τ.1 34 _
      rw [up_pl (by decide), up_ix (by omega), up_ix (by omega), up_ix (by omega), up_ix (by omega), up_ix (by omega)]
    · rw [up_pl y1, up_pl y2, up_pl y2, up_pl y2, up_pl y2, up_pl y2]
  unfold F_X2_push
  rw [h]
  by_cases q : u < 20
  · rw [if_pos (by omega)]
    obtain ⟨σ', a1, a2, a3, a4, a5, a6⟩ := key σ u q h
    refine ⟨σ', a1, fun u' hu' h' => ?_, a5, a6⟩
    have e : u' = u := by omega
    subst e
    have ek : kpt u' = u' := if_pos q
    rw [ek]
    exact ⟨a2, a3, fun i hi x x0 x1 => by rw [show sft u' i = i from if_pos q]; exact a4 i hi x x0 x1⟩
  · have hu2 : u = 20 := by omega
    subst hu2
    rw [if_neg (by omega), grd_in (by decide)]
    obtain ⟨σ', a1, a2, a3, a4, a5, a6⟩ := key (upI (cpI σ 34 5 34 0 95) 33 1 19) 19 (by decide) up_same
    have cp : ∀ j : Int, (cpI σ 34 5 34 0 95).1 34 j = if 0 ≤ j ∧ j < 95 then σ.1 34 (5 + j) else σ.1 34 j := fun j => by
      show (if 34 = 34 ∧ 0 ≤ j ∧ j < 0 + 95 then σ.1 34 (5 + (j - 0)) else σ.1 34 j) = _
      by_cases z : 0 ≤ j ∧ j < 95
      · rw [if_pos ⟨rfl, z.1, by omega⟩, if_pos z, show (5 : Int) + (j - 0) = 5 + j by omega]
      · rw [if_neg (by omega), if_neg z]
    refine ⟨σ', a1, fun u' hu' h' => ?_, fun y z y1 y2 => ?_, a6⟩
    · have e : u' = 20 := by omega
      subst e
      have ek : kpt 20 = 19 := rfl
      rw [ek]
      refine ⟨a2, a3, fun i hi x x0 x1 => ?_⟩
      rw [a4 i hi x x0 x1]
      show (upI (cpI σ 34 5 34 0 95) 33 1 19).1 34 (5 * (i : Int) + x) = σ.1 34 (5 * ((sft 20 i : Nat) : Int) + x)
      rw [up_pl (by decide), cp, if_pos (by omega), show sft 20 i = i + 1 from rfl, show (5 : Int) + (5 * (i : Int) + x) = 5 * ((i + 1 : Nat) : Int) + x by omega]
    · rw [a5 y z y1 y2, up_pl y1]
      show (if y = 34 ∧ _ then _ else σ.1 y z) = _
      rw [if_neg (fun w => y2 w.1)]
theorem m_canUndo (hN : BigN N) {u : Nat} (hu : u ≤ 20) (h : σ.1 94 25 = u) : ∃ σ', F_X12_canUndo N σ = some σ' ∧ PshM σ σ' ∧ (∀ y z, ¬ (y = 101 ∧ 600 ≤ z) → ¬ (y = 94 ∧ z = 25) → σ'.1 y z = σ.1 y z) ∧ σ'.2 = σ.2 := by
  have key : ∀ (τ : Sto) (q : Nat), q < 20 → τ.1 94 25 = q → ∃ σ', F_X12_canUndo_J39 N τ = some σ' ∧ σ'.1 94 25 = ((q + 1 : Nat) : Int) ∧ (∀ x : Int, 0 ≤ x → x < 200 → σ'.1 101 (200 * (3 + (q : Int)) + x) = τ.1 101 x) ∧ (∀ y z, ¬ (y = 101 ∧ 200 * (3 + (q : Int)) ≤ z ∧ z < 200 * (3 + (q : Int)) + 200) → ¬ (y = 94 ∧ z = 25) → σ'.1 y z = τ.1 y z) ∧ σ'.2 = τ.2 := fun τ q hq h => by
    obtain ⟨τ', a1, a2, a3, a4⟩ := m_copyBank (N := N) (σ := τ) hN (f := 0) (t := 3 + q) (by omega) (by omega) (by omega)
    have e : ja 3 (q : Int) = ((3 + q : Nat) : Int) := by rw [ja_eq ⟨by omega, by omega⟩]; omega
    unfold F_X12_canUndo_J39
    rw [h, e]
    rw [show ((0 : Nat) : Int) = 0 from rfl] at a1
    rw [a1, Option.bind_some, a3 94 25 (by omega), h, ja_1 (by omega) (by omega)]
    refine ⟨_, rfl, by rw [up_same]; omega, fun x x0 x1 => ?_, fun y z p q => ?_, a4⟩
    · rw [up_pl (by decide)]
      have := a2 x x0 x1
      rw [show (200 : Int) * ((0 : Nat) : Int) + x = x by omega, show ((3 + q : Nat) : Int) = 3 + (q : Int) by omega] at this
      exact this
    · rw [upI_ne q]
      exact a3 y z (by omega)
  unfold F_X12_canUndo
  rw [h]
  by_cases q : u < 20
  · rw [if_neg (by omega)]
    obtain ⟨σ', a1, a2, a3, a4, a5⟩ := key σ u q h
    refine ⟨σ', a1, fun u' hu' h' => ?_, fun y z p q => a4 y z (by omega) q, a5⟩
    have e : u' = u := by omega
    subst e
    have ek : kpt u' = u' := if_pos q
    rw [ek]
    exact ⟨a2, a3, fun i hi x x0 x1 => by rw [show sft u' i = i from if_pos q]; exact a4 _ _ (by omega) (by omega)⟩
  · have hu2 : u = 20 := by omega
    subst hu2
    rw [if_pos (by omega)]
    obtain ⟨s, ⟨h1, h2, h3, h4⟩, h5⟩ := loop_A (b := fun q nx11 => F_X12_canUndo_B11 N nx11 q.1 q.2) (fin := fun s => F_X12_canUndo_J33 N s.2) (N := N) (s0 := ((1 : Int), σ)) (fun k s => s.1 = ((k + 1 : Nat) : Int) ∧ (∀ i : Nat, i < k → ∀ x : Int, 0 ≤ x → x < 200 → s.2.1 101 (200 * (3 + (i : Int)) + x) = σ.1 101 (200 * (3 + ((i + 1 : Nat) : Int)) + x)) ∧ (∀ y z, ¬ (y = 101 ∧ 600 ≤ z ∧ z < 600 + 200 * (k : Int)) → s.2.1 y z = σ.1 y z) ∧ s.2.2 = σ.2) 19 (bigN hN) ⟨rfl, fun i hi => by omega, fun _ _ _ => rfl, rfl⟩ (fun k s hk hI => by
      obtain ⟨v, τ⟩ := s
      obtain ⟨i1, i2, i3, i4⟩ := hI
      have i1 : v = ((k + 1 : Nat) : Int) := i1
      subst i1
      obtain ⟨τ', a1, a2, a3, a4⟩ := m_copyBank (N := N) (σ := τ) hN (f := 3 + (k + 1)) (t := 3 + k) (by omega) (by omega) (by omega)
      have e1 : ja 3 ((k + 1 : Nat) : Int) = ((3 + (k + 1) : Nat) : Int) := by rw [ja_eq ⟨by omega, by omega⟩]; omega
      have e2 : ja 2 ((k + 1 : Nat) : Int) = ((3 + k : Nat) : Int) := by rw [ja_eq ⟨by omega, by omega⟩]; omega
      refine ⟨(((k + 1 + 1 : Nat) : Int), τ'), ⟨rfl, fun i hi x x0 x1 => ?_, fun y z p => (a3 y z (by omega)).trans (i3 y z (by omega)), a4.trans i4⟩, fun nx => ?_⟩
      · show τ'.1 101 _ = _
        by_cases e : i = k
        · subst e
          have := a2 x x0 x1
          rw [show (200 : Int) * ((3 + i : Nat) : Int) + x = 200 * (3 + (i : Int)) + x by omega] at this
          rw [this, i3 _ _ (by omega)]
          congr 1
        · rw [a3 _ _ (by omega)]
          exact i2 i (by omega) x x0 x1
      · show F_X12_canUndo_B11 N nx ((k + 1 : Nat) : Int) τ = _
        unfold F_X12_canUndo_B11
        rw [if_neg (by omega), e1, e2, a1, Option.bind_some, ja_1 (by omega) (by omega)]; rfl) (fun s hI nx => by
      obtain ⟨v, τ⟩ := s
      have i1 : v = ((19 + 1 : Nat) : Int) := hI.1
      show F_X12_canUndo_B11 N nx v τ = F_X12_canUndo_J33 N τ
      unfold F_X12_canUndo_B11
      rw [i1, if_pos (by omega)])
    rw [h5]
    show ∃ σ', F_X12_canUndo_J33 N s.2 = some σ' ∧ _
    unfold F_X12_canUndo_J33
    obtain ⟨σ', a1, a2, a3, a4, a5⟩ := key (upI s.2 94 25 19) 19 (by decide) up_same
    refine ⟨σ', a1, fun u' hu' h' => ?_, fun y z p q => ?_, a5.trans h4⟩
    · have e : u' = 20 := by omega
      subst e
      have ek : kpt 20 = 19 := rfl
      rw [ek]
      refine ⟨a2, fun x x0 x1 => ?_, fun i hi x x0 x1 => ?_⟩
      · rw [a3 x x0 x1, up_pl (by decide)]
        exact h3 _ _ (by omega)
      · rw [a4 _ _ (by omega) (by omega), up_pl (by decide), h2 i hi x x0 x1]; rfl
    · rw [a4 y z (by omega) q, upI_ne q]
      exact h3 y z (by omega)
end UND
