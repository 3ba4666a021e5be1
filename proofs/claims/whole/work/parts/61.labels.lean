/-! LABELS of a search: each node has a walk from a source, or none ([]) -/
/-- which goes ahead; z: the numbers decide too -/
def ahz (z : Bool) (w : Nat → Nat → Int) (P Q : List Nat) : Prop := wc w P < wc w Q ∨ (wc w P = wc w Q ∧ (P.length < Q.length ∨ (z = true ∧ P.length = Q.length ∧ lxl P Q)))
theorem ahz_true {w : Nat → Nat → Int} {P Q : List Nat} : ahz true w P Q ↔ ahead w P Q := by
  unfold ahz ahead
  constructor
  · rintro (h | ⟨a, b | ⟨-, b⟩⟩)
    · exact Or.inl h
    · exact Or.inr ⟨a, Or.inl b⟩
    · exact Or.inr ⟨a, Or.inr b⟩
  · rintro (h | ⟨a, b | b⟩)
    · exact Or.inl h
    · exact Or.inr ⟨a, Or.inl b⟩
    · exact Or.inr ⟨a, Or.inr ⟨rfl, b⟩⟩
theorem ahz_trans {z : Bool} {w : Nat → Nat → Int} {P Q T : List Nat} (h1 : ahz z w P Q) (h2 : ahz z w Q T) : ahz z w P T := by
  rcases h1 with a | ⟨a, b | ⟨b0, b, c⟩⟩ <;> rcases h2 with d | ⟨d, e | ⟨e0, e, f⟩⟩
  · exact Or.inl (by omega)
  · exact Or.inl (by omega)
  · exact Or.inl (by omega)
  · exact Or.inl (by omega)
  · exact Or.inr ⟨by omega, Or.inl (by omega)⟩
  · exact Or.inr ⟨by omega, Or.inl (by omega)⟩
  · exact Or.inl (by omega)
  · exact Or.inr ⟨by omega, Or.inl (by omega)⟩
  · exact Or.inr ⟨by omega, Or.inr ⟨b0, by omega, lxl_trans c f⟩⟩
theorem lxl_asymm {s t : List Nat} (h1 : lxl s t) (h2 : lxl t s) : False := lxl_irr (lxl_trans h1 h2)
/-- not behind, not behind: not behind -/
theorem nah_trans {z : Bool} {w : Nat → Nat → Int} {P Q T : List Nat} (h1 : ¬ ahz z w Q P) (h2 : ¬ ahz z w T Q) : ¬ ahz z w T P := by
  intro h
  have h1' : wc w P ≤ wc w Q := by
    rcases Int.lt_or_le (wc w Q) (wc w P) with c | c
    · exact absurd (Or.inl c) h1
    · exact c
  have h2' : wc w Q ≤ wc w T := by
    rcases Int.lt_or_le (wc w T) (wc w Q) with c | c
    · exact absurd (Or.inl c) h2
    · exact c
  rcases h with a | ⟨a, b⟩
  · omega
  · have e1 : wc w P = wc w Q := by omega
    have e2 : wc w Q = wc w T := by omega
    have l1 : P.length ≤ Q.length := by
      rcases Nat.lt_or_ge Q.length P.length with c | c
      · exact absurd (Or.inr ⟨e1.symm, Or.inl c⟩) h1
      · exact c
    have l2 : Q.length ≤ T.length := by
      rcases Nat.lt_or_ge T.length Q.length with c | c
      · exact absurd (Or.inr ⟨e2.symm, Or.inl c⟩) h2
      · exact c
    rcases b with b | ⟨b0, b, c⟩
    · omega
    · have f1 : P.length = Q.length := by omega
      have f2 : Q.length = T.length := by omega
      rcases lxl_tri f1 with x | x | x
      · rcases lxl_tri f2 with y | y | y
        · exact lxl_asymm c (lxl_trans x y)
        · subst y; exact lxl_asymm c x
        · exact h2 (Or.inr ⟨e2.symm, Or.inr ⟨b0, f2.symm, y⟩⟩)
      · subst x; exact h2 (Or.inr ⟨e2.symm, Or.inr ⟨b0, f2.symm, c⟩⟩)
      · exact h1 (Or.inr ⟨e1.symm, Or.inr ⟨b0, f1.symm, x⟩⟩)
theorem ahz_asymm {z : Bool} {w : Nat → Nat → Int} {P Q : List Nat} (h1 : ahz z w P Q) (h2 : ahz z w Q P) : False := by
  rcases ahz_trans h1 h2 with h | ⟨-, h | ⟨-, -, h⟩⟩
  · omega
  · omega
  · exact lxl_irr h
theorem wc_snoc {w : Nat → Nat → Int} {b : Nat} : ∀ {P : List Nat}, P ≠ [] → wc w (P ++ [b]) = wc w P + w (lastOf P) b := by
  intro P
  induction P with
  | nil => intro h; exact absurd rfl h
  | cons u t ih =>
    intro _
    cases t with
    | nil => show w u b + 0 = 0 + w u b; omega
    | cons v t =>
      show w u v + wc w ((v :: t) ++ [b]) = (w u v + wc w (v :: t)) + w (lastOf (v :: t)) b
      rw [ih (by simp)]
      omega
theorem wk_snoc {E : Nat → Nat → Prop} {b : Nat} : ∀ {P : List Nat}, P ≠ [] → (Wk E (P ++ [b]) ↔ Wk E P ∧ E (lastOf P) b) := by
  intro P
  induction P with
  | nil => intro h; exact absurd rfl h
  | cons u t ih =>
    intro _
    cases t with
    | nil => exact ⟨fun h => ⟨trivial, h.1⟩, fun h => ⟨h.2, trivial⟩⟩
    | cons v t =>
      have := ih (by simp)
      constructor
      · intro h
        have h2 := this.mp h.2
        exact ⟨⟨h.1, h2.1⟩, h2.2⟩
      · intro h
        exact ⟨h.1.1, this.mpr ⟨h.1.2, h.2⟩⟩
theorem lxl_app_inv {b c : Nat} : ∀ {s t : List Nat}, s.length = t.length → lxl (s ++ [b]) (t ++ [b]) → lxl s t := by
  intro s
  induction s with
  | nil =>
    intro t h h1
    cases t with
    | nil => exact absurd h1 lxl_irr
    | cons x t => cases h
  | cons a s ih =>
    intro t h h1
    cases t with
    | nil => cases h
    | cons x t =>
      rcases h1 with y | y
      · exact Or.inl y
      · exact Or.inr ⟨y.1, ih (Nat.succ.inj h) y.2⟩
/-- one node more behind both, from the same end -/
theorem nah_snoc {z : Bool} {w : Nat → Nat → Int} {P Q : List Nat} {b : Nat} (hP : P ≠ []) (hQ : Q ≠ []) (hl : lastOf P = lastOf Q) (h : ¬ ahz z w Q P) : ¬ ahz z w (Q ++ [b]) (P ++ [b]) := by
  intro h1
  apply h
  unfold ahz at h1 ⊢
  rw [wc_snoc hP, wc_snoc hQ, hl, List.length_append, List.length_append] at h1
  rcases h1 with a | ⟨a, c | ⟨c0, c, d⟩⟩
  · exact Or.inl (by omega)
  · exact Or.inr ⟨by omega, Or.inl (by simp only [List.length_cons, List.length_nil] at c; omega)⟩
  · have c' : Q.length = P.length := by simp only [List.length_cons, List.length_nil] at c; omega
    exact Or.inr ⟨by omega, Or.inr ⟨c0, c', lxl_app_inv (c := 0) c' d⟩⟩
/-- what the labels of a search hold at any time -/
def FL (z : Bool) (E : Nat → Nat → Prop) (w : Nat → Nat → Int) (src : Nat → Prop) (n : Nat) (lab : Nat → List Nat) : Prop :=
  (∀ v, lab v ≠ [] → Wk E (lab v) ∧ lastOf (lab v) = v ∧ src ((lab v).headD 0) ∧ (lab v).Nodup ∧ ∀ x ∈ lab v, x < n) ∧
  (∀ v a x b, lab v = a ++ x :: b → b ≠ [] → lab x ≠ [] ∧ ¬ ahz z w (a ++ [x]) (lab x)) ∧
  (∀ s, src s → lab s ≠ [] ∧ ¬ ahz z w [s] (lab s))
theorem FL.start {z : Bool} {E : Nat → Nat → Prop} {w : Nat → Nat → Int} {src : Nat → Prop} {n : Nat} (hs : ∀ s, src s → s < n) {lab : Nat → List Nat} (h : ∀ v, (src v ∧ lab v = [v]) ∨ (¬ src v ∧ lab v = [])) : FL z E w src n lab := by
  refine ⟨fun v hv => ?_, fun v a x b e hb => ?_, fun s hsr => ?_⟩
  · rcases h v with ⟨h1, h2⟩ | ⟨h1, h2⟩
    · rw [h2]
      exact ⟨trivial, rfl, h1, by simp, fun x hx => by rw [List.mem_singleton.mp hx]; exact hs v h1⟩
    · exact absurd h2 hv
  · rcases h v with ⟨h1, h2⟩ | ⟨h1, h2⟩ <;> rw [h2] at e
    · cases a with
      | nil => cases e; exact absurd rfl hb
      | cons y a =>
        have := congrArg List.length e
        simp at this
    · cases a <;> cases e
  · rcases h s with ⟨h1, h2⟩ | ⟨h1, h2⟩
    · rw [h2]
      refine ⟨by simp, ?_⟩
      rintro (a | ⟨-, a | ⟨-, -, a⟩⟩)
      · omega
      · omega
      · exact lxl_irr a
    · exact absurd hsr h1
/-- a prefix that ends where a longer walk ends is ahead of it -/
theorem pre_ahead {z : Bool} {E : Nat → Nat → Prop} {w : Nat → Nat → Int} {π : Nat → Int} (hπ : ∀ u v, E u v → 0 ≤ w u v + π u - π v) {a b : List Nat} {x : Nat} (h : Wk E (a ++ x :: (b ++ [x]))) : ahz z w (a ++ [x]) (a ++ x :: (b ++ [x])) := by
  have h1 := wk_split.mp h
  have h2 := wc_cycle hπ h1.2
  have h3 : wc w (a ++ x :: (b ++ [x])) = wc w (a ++ [x]) + wc w (x :: (b ++ [x])) := wc_split
  have hl : (a ++ [x]).length < (a ++ x :: (b ++ [x])).length := by simp
  rcases Int.lt_or_le (wc w (a ++ [x])) (wc w (a ++ x :: (b ++ [x]))) with c | c
  · exact Or.inl c
  · exact Or.inr ⟨by omega, Or.inl hl⟩
/-- the node that a better walk leads to isn't on it yet -/
theorem FL.new {z : Bool} {E : Nat → Nat → Prop} {w : Nat → Nat → Int} {src : Nat → Prop} {n : Nat} {lab : Nat → List Nat} {π : Nat → Int} (hπ : ∀ u v, E u v → 0 ≤ w u v + π u - π v) (h : FL z E w src n lab) {a b : Nat} (hE : E a b) (ha : lab a ≠ []) (hb : lab b = [] ∨ ahz z w (lab a ++ [b]) (lab b)) : b ∉ lab a := by
  intro hm
  obtain ⟨pre, post, e⟩ := List.append_of_mem hm
  obtain ⟨h1, h2, -⟩ := h.1 a ha
  have hw : Wk E (lab a ++ [b]) := (wk_snoc ha).mpr ⟨h1, by rw [h2]; exact hE⟩
  have hp : ahz z w (pre ++ [b]) (lab a ++ [b]) := by
    rw [e] at hw ⊢
    have e2 : (pre ++ b :: post) ++ [b] = pre ++ b :: (post ++ [b]) := by simp
    rw [e2] at hw ⊢
    exact pre_ahead hπ hw
  have hq : lab b ≠ [] ∧ ¬ ahz z w (pre ++ [b]) (lab b) := by
    by_cases hpo : post = []
    · subst hpo
      have hba : b = a := by rw [← h2, e]; exact lastOf_snoc.symm
      subst hba
      refine ⟨ha, fun q => ?_⟩
      rw [e] at q
      exact ahz_asymm q q
    · exact h.2.1 a pre b post e hpo
  rcases hb with hb | hb
  · exact hq.1 hb
  · exact hq.2 (ahz_trans hp hb)
def updL (lab : Nat → List Nat) (b : Nat) (P : List Nat) : Nat → List Nat := fun v => if v = b then P else lab v
theorem updL_at {lab : Nat → List Nat} {b : Nat} {P : List Nat} : updL lab b P b = P := if_pos rfl
theorem updL_ne {lab : Nat → List Nat} {b v : Nat} {P : List Nat} (h : v ≠ b) : updL lab b P v = lab v := if_neg h
theorem snoc_split {P a t : List Nat} {x b : Nat} (e : P ++ [b] = a ++ x :: t) (ht : t ≠ []) : (∃ t', P = a ++ x :: t') := by
  obtain ⟨t', y, rfl⟩ : ∃ t' y, t = t' ++ [y] := ⟨t.dropLast, t.getLast ht, (List.dropLast_concat_getLast ht).symm⟩
  rw [show a ++ x :: (t' ++ [y]) = (a ++ x :: t') ++ [y] by simp] at e
  exact ⟨t', (List.append_inj_left' e (by simp))⟩
theorem FL.upd {z : Bool} {E : Nat → Nat → Prop} {w : Nat → Nat → Int} {src : Nat → Prop} {n : Nat} {lab : Nat → List Nat} {π : Nat → Int} (hπ : ∀ u v, E u v → 0 ≤ w u v + π u - π v) (hn : ∀ u v, E u v → v < n) (h : FL z E w src n lab) {a b : Nat} (hE : E a b) (ha : lab a ≠ []) (hb : lab b = [] ∨ ahz z w (lab a ++ [b]) (lab b)) : FL z E w src n (updL lab b (lab a ++ [b])) := by
  have hnew := h.new hπ hE ha hb
  obtain ⟨h1, h2, h3, h4, h5⟩ := h.1 a ha
  have irr : ∀ P, ¬ ahz z w P P := fun P q => ahz_asymm q q
  -- the label of x is no worse than before
  have key : ∀ x P, lab x ≠ [] → ¬ ahz z w P (lab x) → updL lab b (lab a ++ [b]) x ≠ [] ∧ ¬ ahz z w P (updL lab b (lab a ++ [b]) x) := by
    intro x P hx hP
    by_cases e : x = b
    · subst e
      rw [updL_at]
      refine ⟨by simp, ?_⟩
      rcases hb with hb | hb
      · exact absurd hb hx
      · intro q
        exact hP (ahz_trans q hb)
    · rw [updL_ne e]
      exact ⟨hx, hP⟩
  refine ⟨fun v hv => ?_, fun v p x t e ht => ?_, fun s hs => ?_⟩
  · by_cases e : v = b
    · subst e
      rw [updL_at]
      refine ⟨(wk_snoc ha).mpr ⟨h1, by rw [h2]; exact hE⟩, lastOf_snoc, ?_, ?_, ?_⟩
      · cases hl : lab a with
        | nil => exact absurd hl ha
        | cons y l => rw [hl] at h3; exact h3
      · rw [List.nodup_append]
        refine ⟨h4, by simp, ?_⟩
        intro y hy y' hy' q
        rw [List.mem_singleton.mp hy'] at q
        rw [q] at hy
        exact hnew hy
      · intro y hy
        rcases List.mem_append.mp hy with q | q
        · exact h5 y q
        · rw [List.mem_singleton.mp q]; exact hn a v hE
    · rw [updL_ne e] at hv ⊢
      exact h.1 v hv
  · by_cases e0 : v = b
    · subst e0
      rw [updL_at] at e
      obtain ⟨t', e'⟩ := snoc_split e ht
      by_cases ht' : t' = []
      · subst ht'
        have hx : x = a := by rw [← h2, e']; exact lastOf_snoc.symm
        subst hx
        rw [← e']
        exact key x _ ha (irr _)
      · obtain ⟨k1, k2⟩ := h.2.1 a p x t' e' ht'
        exact key x _ k1 k2
    · rw [updL_ne e0] at e
      obtain ⟨k1, k2⟩ := h.2.1 v p x t e ht
      exact key x _ k1 k2
  · obtain ⟨k1, k2⟩ := h.2.2 s hs
    exact key s _ k1 k2
theorem nodup_full {n : Nat} {l : List Nat} (hd : l.Nodup) (h : ∀ x ∈ l, x < n) (hl : n ≤ l.length) {b : Nat} (hb : b < n) : b ∈ l := by
  by_cases q : b ∈ l
  · exact q
  · have := nodup_le (n := n) (l := b :: l) (List.nodup_cons.mpr ⟨q, hd⟩) (fun x hx => by
      rcases List.mem_cons.mp hx with e | e
      · rw [e]; exact hb
      · exact h x e)
    simp at this
    omega
/-- where nothing gets better any more, no walk from a source is ahead of its end's label; labels of cp nodes aren't gone on from -/
theorem FL.best {z : Bool} {E : Nat → Nat → Prop} {w : Nat → Nat → Int} {src : Nat → Prop} {n cp : Nat} {lab : Nat → List Nat} {π : Nat → Int} (hπ : ∀ u v, E u v → 0 ≤ w u v + π u - π v) (hn : ∀ u v, E u v → v < n) (h : FL z E w src n lab) (hcp : n ≤ cp) (fix : ∀ a b, E a b → lab a ≠ [] → (lab a).length < cp → lab b ≠ [] ∧ ¬ ahz z w (lab a ++ [b]) (lab b)) : ∀ (m : Nat) (Q : List Nat), Q.length = m → Wk E Q → src (Q.headD 0) → lab (lastOf Q) ≠ [] ∧ ¬ ahz z w Q (lab (lastOf Q)) := by
  intro m
  induction m with
  | zero =>
    intro Q hl hw _
    rw [List.length_eq_zero_iff.mp hl] at hw
    exact absurd hw id
  | succ m ih =>
    intro Q hl hw hs
    have hne : Q ≠ [] := by intro q; rw [q] at hl; cases hl
    obtain ⟨P, b, rfl⟩ : ∃ P b, Q = P ++ [b] := ⟨Q.dropLast, Q.getLast hne, (List.dropLast_concat_getLast hne).symm⟩
    rw [lastOf_snoc]
    by_cases hP : P = []
    · subst hP
      exact h.2.2 b hs
    · have hw' := (wk_snoc hP).mp hw
      obtain ⟨k1, k2⟩ := ih P (by simp at hl; exact hl) hw'.1 (by cases P with | nil => exact absurd rfl hP | cons y P => exact hs)
      obtain ⟨a, ea⟩ : ∃ a, a = lastOf P := ⟨_, rfl⟩
      rw [← ea] at k1 k2 hw'
      obtain ⟨g1, g2, g3, g4, g5⟩ := h.1 a k1
      have k3 : ¬ ahz z w (P ++ [b]) (lab a ++ [b]) := nah_snoc k1 hP (by rw [g2, ea]) k2
      rcases Nat.lt_or_ge (lab a).length cp with hc | hc
      · obtain ⟨f1, f2⟩ := fix a b hw'.2 k1 hc
        exact ⟨f1, nah_trans f2 k3⟩
      · have hm : b ∈ lab a := nodup_full g4 g5 (by omega) (hn a b hw'.2)
        -- then the label of b is no worse than the part of a's label that ends there
        have hnb : ¬ (lab b = [] ∨ ahz z w (lab a ++ [b]) (lab b)) := fun q => (h.new hπ hw'.2 k1 q) hm
        exact ⟨fun q => hnb (Or.inl q), nah_trans (fun q => hnb (Or.inr q)) k3⟩
