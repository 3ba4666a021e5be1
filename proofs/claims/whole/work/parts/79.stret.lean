/-! STRETCHES of days on which nothing changes -/
def nxtK (D : Dk) (d : Int) : Nat → Int
  | 0 => 1000
  | k + 1 => if d < D.2 11 k ∧ D.2 11 k < nxtK D d k then D.2 11 k else nxtK D d k
def nxt (D : Dk) (d : Int) : Int := nxtK D d (dn D)
def stD (D : Dk) : Nat → Int
  | 0 => 0
  | i + 1 => nxt D (stD D i)
theorem nxtK_spec (D : Dk) (d : Int) : ∀ k : Nat, (nxtK D d k ≤ 1000) ∧ (nxtK D d k = 1000 ∨ ∃ j : Nat, j < k ∧ nxtK D d k = D.2 11 j ∧ d < D.2 11 j) ∧ ∀ j : Nat, j < k → d < D.2 11 j → nxtK D d k ≤ D.2 11 j ∨ 1000 ≤ D.2 11 j := by
  intro k
  induction k with
  | zero => exact ⟨Int.le_refl _, Or.inl rfl, fun j h => by omega⟩
  | succ k ih =>
    obtain ⟨i1, i2, i3⟩ := ih
    have e : nxtK D d (k + 1) = if d < D.2 11 k ∧ D.2 11 k < nxtK D d k then D.2 11 k else nxtK D d k := rfl
    by_cases h : d < D.2 11 k ∧ D.2 11 k < nxtK D d k
    · rw [e, if_pos h]
      refine ⟨by omega, Or.inr ⟨k, by omega, rfl, h.1⟩, fun j hj hd => ?_⟩
      by_cases q : j = k
      · subst q; exact Or.inl (Int.le_refl _)
      · rcases i3 j (by omega) hd with z | z
        · exact Or.inl (by omega)
        · exact Or.inr z
    · rw [e, if_neg h]
      refine ⟨i1, ?_, fun j hj hd => ?_⟩
      · rcases i2 with z | ⟨j, z1, z2, z3⟩
        · exact Or.inl z
        · exact Or.inr ⟨j, by omega, z2, z3⟩
      · by_cases q : j = k
        · subst q; exact Or.inl (by omega)
        · exact i3 j (by omega) hd
/-- the next start: 1000 if there is none behind d, else the least one -/
theorem nxt_spec {D : Dk} (V : Val D) (d : Int) (hd : d < 1000) : d < nxt D d ∧ nxt D d ≤ 1000 ∧ (nxt D d = 1000 ∨ ∃ j : Nat, j < dn D ∧ nxt D d = D.2 11 j) ∧ ∀ j : Nat, j < dn D → d < D.2 11 j → nxt D d ≤ D.2 11 j := by
  obtain ⟨i1, i2, i3⟩ := nxtK_spec D d (dn D)
  have w := fun (j : Nat) (hj : j < dn D) => (V.own (k := j) (by omega) (by omega)).2.2
  refine ⟨?_, i1, ?_, fun j hj h => ?_⟩
  · show d < nxtK D d (dn D)
    rcases i2 with z | ⟨j, -, z2, z3⟩ <;> omega
  · rcases i2 with z | ⟨j, z1, z2, -⟩
    · exact Or.inl z
    · exact Or.inr ⟨j, z1, z2⟩
  · show nxtK D d (dn D) ≤ _
    rcases i3 j hj h with z | z
    · exact z
    · have := w j hj; omega
def cntD (D : Dk) (d : Int) : Nat → Nat
  | 0 => 0
  | k + 1 => cntD D d k + if d < D.2 11 k then 1 else 0
theorem cntD_le (D : Dk) (d : Int) : ∀ k, cntD D d k ≤ k := by
  intro k
  induction k with
  | zero => exact Nat.le_refl _
  | succ k ih => show cntD D d k + (if _ then 1 else 0) ≤ _; split <;> omega
theorem cntD_mono (D : Dk) {d d' : Int} (h : d ≤ d') : ∀ k, cntD D d' k ≤ cntD D d k := by
  intro k
  induction k with
  | zero => exact Nat.le_refl _
  | succ k ih =>
    show cntD D d' k + (if _ then 1 else 0) ≤ cntD D d k + (if _ then 1 else 0)
    split <;> split <;> omega
theorem cntD_lt (D : Dk) {d d' : Int} (h : d < d') : ∀ k, (∃ j : Nat, j < k ∧ D.2 11 j = d') → cntD D d' k < cntD D d k := by
  intro k
  induction k with
  | zero => rintro ⟨j, hj, -⟩; omega
  | succ k ih =>
    rintro ⟨j, hj, e⟩
    show cntD D d' k + (if _ then 1 else 0) < cntD D d k + (if _ then 1 else 0)
    by_cases q : j = k
    · subst q
      have := cntD_mono D (Int.le_of_lt h) j
      rw [if_neg (by omega), if_pos (by omega)]
      omega
    · have := ih ⟨j, by omega, e⟩
      split <;> split <;> omega
theorem stD_le {D : Dk} (V : Val D) : ∀ i, 0 ≤ stD D i ∧ stD D i ≤ 1000 := by
  intro i
  induction i with
  | zero => show (0 : Int) ≤ 0 ∧ (0 : Int) ≤ 1000; omega
  | succ i ih =>
    have : 0 ≤ nxt D (stD D i) ∧ nxt D (stD D i) ≤ 1000 := by
      obtain ⟨j1, j2, -⟩ := nxtK_spec D (stD D i) (dn D)
      refine ⟨?_, j1⟩
      show 0 ≤ nxtK D (stD D i) (dn D)
      rcases j2 with z | ⟨j, z1, z2, z3⟩ <;> omega
    exact this
/-- how many stretches there are -/
def nsF (D : Dk) : Nat → Nat → Nat
  | 0, i => i
  | f + 1, i => if stD D i < 1000 then nsF D f (i + 1) else i
def nsD (D : Dk) : Nat := nsF D 25 0
def IsN (D : Dk) (n : Nat) : Prop := 1 ≤ n ∧ n ≤ 25 ∧ (∀ i, i < n → stD D i < 1000) ∧ stD D n = 1000
theorem nsD_is {D : Dk} (V : Val D) : IsN D (nsD D) := by
  have v := V.sz
  have key : ∀ f i, (∀ k, k < i → stD D k < 1000) → cntD D (stD D i) (dn D) < f → i + f ≤ 25 → (∀ k, k < nsF D f i → stD D k < 1000) ∧ stD D (nsF D f i) = 1000 ∧ i ≤ nsF D f i ∧ nsF D f i ≤ 25 := by
    intro f
    induction f with
    | zero => intro i _ h; omega
    | succ f ih =>
      intro i hi hc hf
      show (∀ k, k < (if stD D i < 1000 then nsF D f (i + 1) else i) → _) ∧ stD D (if stD D i < 1000 then nsF D f (i + 1) else i) = _ ∧ _ ≤ (if stD D i < 1000 then nsF D f (i + 1) else i) ∧ (if stD D i < 1000 then nsF D f (i + 1) else i) ≤ _
      by_cases h : stD D i < 1000
      · rw [if_pos h]
        obtain ⟨n1, n2, n3, n4⟩ := nxt_spec V (stD D i) h
        rcases n3 with z | ⟨j, z1, z2⟩
        · cases f with
          | zero => exact ⟨fun k hk => by
              have hk : k < i + 1 := hk
              by_cases e : k = i
              · subst e; exact h
              · exact hi k (by omega), z, by show i ≤ i + 1; omega, by show i + 1 ≤ 25; omega⟩
          | succ f =>
            have e : nsF D (f + 1) (i + 1) = i + 1 := by
              show (if stD D (i + 1) < 1000 then _ else _) = _
              rw [if_neg (by show ¬ nxt D (stD D i) < 1000; omega)]
            rw [e]
            exact ⟨fun k hk => by
              by_cases e : k = i
              · subst e; exact h
              · exact hi k (by omega), z, by omega, by omega⟩
        · have := cntD_lt D n1 (dn D) ⟨j, z1, z2.symm⟩
          have r := ih (i + 1) (fun k hk => by
            by_cases e : k = i
            · subst e; exact h
            · exact hi k (by omega)) (by show cntD D (nxt D (stD D i)) (dn D) < f; omega) (by omega)
          exact ⟨r.1, r.2.1, by omega, r.2.2.2⟩
      · rw [if_neg h]
        have := stD_le V i
        exact ⟨hi, by omega, Nat.le_refl _, by omega⟩
  have c := cntD_le D (stD D 0) (dn D)
  obtain ⟨k1, k2, k3, k4⟩ := key 25 0 (fun k hk => by omega) (by omega) (by omega)
  refine ⟨?_, k4, k1, k2⟩
  rcases Nat.eq_zero_or_pos (nsD D) with z | z
  · have k2' : stD D (nsD D) = 1000 := k2
    rw [z] at k2'
    have : (0 : Int) = 1000 := k2'
    omega
  · exact z
theorem IsN.uniq {D : Dk} {n m : Nat} (h1 : IsN D n) (h2 : IsN D m) : n = m := by
  rcases Nat.lt_trichotomy n m with z | z | z
  · have := h2.2.2.1 n z; have := h1.2.2.2; omega
  · exact z
  · have := h1.2.2.1 m z; have := h2.2.2.2; omega
theorem stD_inc {D : Dk} (V : Val D) {i : Nat} (h : stD D i < 1000) : stD D i < stD D (i + 1) := (nxt_spec V _ h).1
/-- a row of starts in order that has 0 and the days of the owns is that of the stretches -/
theorem st_of_row {D : Dk} (V : Val D) {A : Nat → Int} {n : Nat} (h1 : 1 ≤ n) (hA0 : A 0 = 0) (hinc : ∀ i, i + 1 < n → A i < A (i + 1)) (hin : ∀ i, i < n → i = 0 ∨ ∃ k : Nat, k < dn D ∧ A i = D.2 11 k) (hall : ∀ k : Nat, k < dn D → ∃ i, i < n ∧ A i = D.2 11 k) : (∀ i, i < n → A i = stD D i ∧ stD D i < 1000) ∧ stD D n = 1000 := by
  have w := fun (j : Nat) (hj : j < dn D) => (V.own (k := j) (by omega) (by omega)).2.2
  have mono : ∀ i j, i < j → j < n → A i < A j := by
    intro i j
    induction j with
    | zero => intro h; omega
    | succ j ih =>
      intro hij hj
      have := hinc j hj
      by_cases e : i = j
      · subst e; exact this
      · have := ih (by omega) (by omega); omega
  have lt : ∀ i, i < n → A i < 1000 := by
    intro i hi
    rcases hin i hi with z | ⟨k, hk, e⟩
    · subst z; omega
    · have := w k hk; omega
  have key : ∀ i, i < n → A i = stD D i ∧ stD D i < 1000 := by
    intro i
    induction i with
    | zero => intro h; exact ⟨hA0, by show (0 : Int) < 1000; decide⟩
    | succ i ih =>
      intro hi
      obtain ⟨e, l⟩ := ih (by omega)
      obtain ⟨n1, n2, n3, n4⟩ := nxt_spec V (stD D i) l
      have inc := hinc i hi
      have l2 := lt (i + 1) hi
      have e2 : A (i + 1) = nxt D (stD D i) := by
        rcases hin (i + 1) hi with z | ⟨k, hk, ek⟩
        · omega
        · have le := n4 k hk (by omega)
          rcases n3 with z | ⟨j, hj, ej⟩
          · omega
          · obtain ⟨t, ht, et⟩ := hall j hj
            have : i < t := by
              rcases Nat.lt_trichotomy i t with q | q | q
              · exact q
              · subst q; omega
              · have := mono t i q (by omega); omega
            by_cases q : t = i + 1
            · subst q; omega
            · have := mono (i + 1) t (by omega) ht; omega
      exact ⟨e2, by show nxt D (stD D i) < 1000; omega⟩
  refine ⟨key, ?_⟩
  obtain ⟨i, rfl⟩ : ∃ i, n = i + 1 := ⟨n - 1, by omega⟩
  obtain ⟨e, l⟩ := key i (by omega)
  obtain ⟨n1, n2, n3, n4⟩ := nxt_spec V (stD D i) l
  show nxt D (stD D i) = 1000
  rcases n3 with z | ⟨j, hj, ej⟩
  · exact z
  · obtain ⟨t, ht, et⟩ := hall j hj
    have : A t ≤ A i := by
      by_cases q : t = i
      · subst q; exact Int.le_refl _
      · exact Int.le_of_lt (mono t i (by omega) (by omega))
    omega
/-- days of a stretch from fr to to -/
def ovl (s e fr to : Int) : Int := if (if s < fr then fr else s) ≤ (if e - 1 < to then e - 1 else to) then (if e - 1 < to then e - 1 else to) - (if s < fr then fr else s) + 1 else 0
/-- days from fr to to on which a and b are RELATED, by the gate g -/
def dysF (D : Dk) (g a b fr to : Int) : Int → Int := fun i => if relB (pct D (stD D i.toNat)) g (dm D) a b = true then ovl (stD D i.toNat) (stD D (i.toNat + 1)) fr to else 0
def dys (D : Dk) (g a b fr to : Int) : Int := sumTo (dysF D g a b fr to) (nsD D)
theorem ovl_bd {s e fr to : Int} (h0 : 0 ≤ s) (h1 : e ≤ 1000) (h2 : 0 ≤ fr) : 0 ≤ ovl s e fr to ∧ ovl s e fr to ≤ 1000 := by
  unfold ovl; split <;> (repeat' split) <;> omega
theorem dysF_bd {D : Dk} (V : Val D) (g a b fr to : Int) (h2 : 0 ≤ fr) (k : Nat) : 0 ≤ dysF D g a b fr to k ∧ dysF D g a b fr to k ≤ 1000 := by
  unfold dysF
  split
  · exact ovl_bd (stD_le V _).1 (stD_le V _).2 h2
  · omega
theorem ovl_tel {s e fr to : Int} (h : s < e) (hf : fr ≤ to) : ovl s e fr to ≤ e - s ∧ (ovl s e fr to ≤ (if to + 1 < e then to + 1 else e) - (if fr < s then s else fr) ∨ ovl s e fr to = 0) := by
  unfold ovl; (repeat' split) <;> omega
