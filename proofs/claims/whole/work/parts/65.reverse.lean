/-! THE SEARCH FROM THE ENDS: labels of the graph turned round are distances -/
def Er (E : Nat → Nat → Prop) : Nat → Nat → Prop := fun u v => E v u
def wr (w : Nat → Nat → Int) : Nat → Nat → Int := fun u v => w v u
theorem last_rev {L : List Nat} : lastOf L.reverse = L.headD 0 := by
  cases L with
  | nil => rfl
  | cons u t => rw [List.reverse_cons]; exact lastOf_snoc
theorem head_rev {L : List Nat} : L.reverse.headD 0 = lastOf L := by
  have h := last_rev (L := L.reverse)
  rw [List.reverse_reverse] at h
  exact h.symm
theorem wk_rev {E : Nat → Nat → Prop} : ∀ {L : List Nat}, Wk (Er E) L → Wk E L.reverse := by
  intro L
  induction L with
  | nil => exact id
  | cons u t ih =>
    intro h
    cases t with
    | nil => exact trivial
    | cons v t =>
      rw [List.reverse_cons, wk_snoc (by simp)]
      refine ⟨ih h.2, ?_⟩
      rw [last_rev]
      exact h.1
theorem wc_rev {w : Nat → Nat → Int} : ∀ {L : List Nat}, wc w L.reverse = wc (wr w) L := by
  intro L
  induction L with
  | nil => rfl
  | cons u t ih =>
    cases t with
    | nil => rfl
    | cons v t =>
      rw [List.reverse_cons, wc_snoc (by simp), ih, last_rev]
      show wc (wr w) (v :: t) + w v u = w v u + wc (wr w) (v :: t)
      omega
theorem dist_of_FL {E : Nat → Nat → Prop} {w : Nat → Nat → Int} {snk : Nat → Prop} {n : Nat} {lab : Nat → List Nat} {π : Nat → Int} (hπ : ∀ u v, E u v → 0 ≤ w u v + π u - π v) (hn : ∀ u v, E u v → u < n) (h : FL false (Er E) (wr w) snk n lab) (fix : ∀ a b, E b a → lab a ≠ [] → lab b ≠ [] ∧ ¬ ahz false (wr w) (lab a ++ [b]) (lab b)) : Dist E w snk (fun v => wc (wr w) (lab v)) (fun v => (lab v).length) := by
  have hb := h.best (π := fun v => - π v) (cp := n) (fun u v he => by
    have := hπ v u he
    show 0 ≤ w v u + -π u - -π v
    omega) (fun u v he => hn v u he) (Nat.le_refl n) (fun a b he ha _ => fix a b he ha)
  constructor
  · intro v hv
    have hv' : lab v ≠ [] := fun q => hv (by show (lab v).length = 0; rw [q]; rfl)
    obtain ⟨h1, h2, h3, h4, h5⟩ := h.1 v hv'
    have hr : (lab v).reverse ≠ [] := by simpa using hv'
    cases hL : (lab v).reverse with
    | nil => exact absurd hL hr
    | cons y t =>
      have e1 : y = v := by
        have := head_rev (L := lab v)
        rw [hL, h2] at this
        exact this
      subst e1
      refine ⟨t, ?_, ?_, ?_, ?_⟩
      · rw [← hL]; exact wk_rev h1
      · rw [← hL, last_rev]; exact h3
      · rw [← hL]; exact wc_rev
      · rw [← hL, List.length_reverse]
  · intro v t hw hs
    have hw' : Wk (Er E) (v :: t).reverse := wk_rev (E := Er E) (show Wk (Er (Er E)) (v :: t) from hw)
    have hl : lastOf (v :: t).reverse = v := last_rev
    obtain ⟨k1, k2⟩ := hb _ (v :: t).reverse rfl hw' (by rw [head_rev]; exact hs)
    rw [hl] at k1 k2
    have hc : wc (wr w) (v :: t).reverse = wc w (v :: t) := wc_rev (w := wr w)
    have hlen : (v :: t).reverse.length = (v :: t).length := List.length_reverse
    refine ⟨fun q => k1 (List.length_eq_zero_iff.mp q), ?_⟩
    show wc (wr w) (lab v) < wc w (v :: t) ∨ (wc (wr w) (lab v) = wc w (v :: t) ∧ (lab v).length ≤ (v :: t).length)
    rw [← hc, ← hlen]
    rcases Int.lt_trichotomy (wc (wr w) (lab v)) (wc (wr w) (v :: t).reverse) with z | z | z
    · exact Or.inl z
    · refine Or.inr ⟨z, ?_⟩
      rcases Nat.lt_or_ge (v :: t).reverse.length (lab v).length with y | y
      · exact absurd (Or.inr ⟨z.symm, Or.inl y⟩) k2
      · exact y
    · exact absurd (Or.inl z) k2
