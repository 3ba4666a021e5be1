/-! ROUNDS of a search: all edges are tried once a round -/
/-- labels only get better -/
def Imp (z : Bool) (w : Nat → Nat → Int) (lab lab' : Nat → List Nat) : Prop := ∀ v P, lab v ≠ [] → ¬ ahz z w P (lab v) → lab' v ≠ [] ∧ ¬ ahz z w P (lab' v)
theorem Imp.rf {z : Bool} {w : Nat → Nat → Int} {lab : Nat → List Nat} : Imp z w lab lab := fun _ _ h1 h2 => ⟨h1, h2⟩
theorem Imp.tr {z : Bool} {w : Nat → Nat → Int} {l1 l2 l3 : Nat → List Nat} (h1 : Imp z w l1 l2) (h2 : Imp z w l2 l3) : Imp z w l1 l3 := fun v P a b => h2 v P (h1 v P a b).1 (h1 v P a b).2
theorem Imp.upd {z : Bool} {w : Nat → Nat → Int} {lab : Nat → List Nat} {b : Nat} {P0 : List Nat} (h0 : P0 ≠ []) (hb : lab b = [] ∨ ahz z w P0 (lab b)) : Imp z w lab (updL lab b P0) := by
  intro v P hv hP
  by_cases e : v = b
  · subst e
    rw [updL_at]
    refine ⟨h0, ?_⟩
    rcases hb with hb | hb
    · exact absurd hb hv
    · exact fun q => hP (ahz_trans q hb)
  · rw [updL_ne e]
    exact ⟨hv, hP⟩
/-- no walk of at most r + 1 nodes is ahead of its end's label -/
def Dom (z : Bool) (E : Nat → Nat → Prop) (w : Nat → Nat → Int) (src : Nat → Prop) (lab : Nat → List Nat) (r : Nat) : Prop := ∀ Q : List Nat, Q.length ≤ r + 1 → Wk E Q → src (Q.headD 0) → lab (lastOf Q) ≠ [] ∧ ¬ ahz z w Q (lab (lastOf Q))
theorem Dom.zero {z : Bool} {E : Nat → Nat → Prop} {w : Nat → Nat → Int} {src : Nat → Prop} {n : Nat} {lab : Nat → List Nat} (h : FL z E w src n lab) : Dom z E w src lab 0 := by
  intro Q hl hw hs
  match Q, hl, hw, hs with
  | [], _, hw, _ => exact absurd hw id
  | [b], _, _, hs => exact h.2.2 b hs
  | _ :: _ :: _, hl, _, _ => simp at hl
/-- every edge was tried, from labels no worse than those at the round's start -/
def Tried (z : Bool) (E : Nat → Nat → Prop) (w : Nat → Nat → Int) (lab lab' : Nat → List Nat) : Prop := ∀ a b, E a b → lab a ≠ [] → lab' b ≠ [] ∧ ¬ ahz z w (lab a ++ [b]) (lab' b)
theorem Dom.step {z : Bool} {E : Nat → Nat → Prop} {w : Nat → Nat → Int} {src : Nat → Prop} {n r : Nat} {lab lab' : Nat → List Nat} (hf : FL z E w src n lab) (hd : Dom z E w src lab r) (hi : Imp z w lab lab') (ht : Tried z E w lab lab') : Dom z E w src lab' (r + 1) := by
  intro Q hl hw hs
  have hne : Q ≠ [] := by intro q; rw [q] at hw; exact hw
  obtain ⟨P, b, rfl⟩ : ∃ P b, Q = P ++ [b] := ⟨Q.dropLast, Q.getLast hne, (List.dropLast_concat_getLast hne).symm⟩
  by_cases hP : P = []
  · subst hP
    obtain ⟨k1, k2⟩ := hf.2.2 b hs
    exact hi b _ k1 k2
  · have hw' := (wk_snoc hP).mp hw
    have hl' : P.length ≤ r + 1 := by rw [List.length_append] at hl; simp only [List.length_cons, List.length_nil] at hl; omega
    obtain ⟨k1, k2⟩ := hd P hl' hw'.1 (by cases P with | nil => exact absurd rfl hP | cons y P => exact hs)
    rw [lastOf_snoc]
    obtain ⟨t1, t2⟩ := ht _ b hw'.2 k1
    refine ⟨t1, nah_trans t2 (nah_snoc k1 hP ?_ k2)⟩
    exact (hf.1 _ k1).2.1
/-- once walks of n nodes are settled, no label can get better -/
theorem Dom.still {z : Bool} {E : Nat → Nat → Prop} {w : Nat → Nat → Int} {src : Nat → Prop} {n r : Nat} {lab lab' : Nat → List Nat} (hd : Dom z E w src lab r) (hr : n ≤ r + 1) (hf : FL z E w src n lab') {b : Nat} (hb : lab' b ≠ []) : ¬ (lab b = [] ∨ ahz z w (lab' b) (lab b)) := by
  obtain ⟨h1, h2, h3, h4, h5⟩ := hf.1 b hb
  have hl := nodup_le h4 h5
  obtain ⟨k1, k2⟩ := hd (lab' b) (by omega) h1 h3
  rw [h2] at k1 k2
  rintro (q | q)
  · exact k1 q
  · exact k2 q
/-- a step of a round: the edge a b is tried -/
def tryE (z : Bool) (w : Nat → Nat → Int) (lab lab' : Nat → List Nat) (a b : Nat) : Prop :=
  ((lab a = [] ∨ (lab b ≠ [] ∧ ¬ ahz z w (lab a ++ [b]) (lab b))) ∧ lab' = lab) ∨ (lab a ≠ [] ∧ (lab b = [] ∨ ahz z w (lab a ++ [b]) (lab b)) ∧ lab' = updL lab b (lab a ++ [b]))
theorem tryE.imp {z : Bool} {w : Nat → Nat → Int} {lab lab' : Nat → List Nat} {a b : Nat} (h : tryE z w lab lab' a b) : Imp z w lab lab' := by
  rcases h with ⟨-, rfl⟩ | ⟨h1, h2, rfl⟩
  · exact Imp.rf
  · exact Imp.upd (by simp) h2
theorem tryE.done {z : Bool} {w : Nat → Nat → Int} {lab lab' : Nat → List Nat} {a b : Nat} (h : tryE z w lab lab' a b) (ha : lab a ≠ []) : lab' b ≠ [] ∧ ¬ ahz z w (lab a ++ [b]) (lab' b) := by
  rcases h with ⟨h, rfl⟩ | ⟨h1, h2, rfl⟩
  · rcases h with h | h
    · exact absurd h ha
    · exact h
  · rw [updL_at]
    exact ⟨by simp, fun q => ahz_asymm q q⟩
theorem tryE.fl {z : Bool} {E : Nat → Nat → Prop} {w : Nat → Nat → Int} {src : Nat → Prop} {n : Nat} {π : Nat → Int} {lab lab' : Nat → List Nat} {a b : Nat} (hπ : ∀ u v, E u v → 0 ≤ w u v + π u - π v) (hn : ∀ u v, E u v → v < n) (hf : FL z E w src n lab) (hE : E a b) (h : tryE z w lab lab' a b) : FL z E w src n lab' := by
  rcases h with ⟨-, rfl⟩ | ⟨h1, h2, rfl⟩
  · exact hf
  · exact hf.upd hπ hn hE h1 h2
/-- an edge tried within a round, with better and better labels before and behind it, is tried by the round -/
theorem tried_in {z : Bool} {E : Nat → Nat → Prop} {w : Nat → Nat → Int} {src : Nat → Prop} {n : Nat} {l0 l1 l2 l3 : Nat → List Nat} {a b : Nat} (hf0 : FL z E w src n l0) (hf1 : FL z E w src n l1) (h01 : Imp z w l0 l1) (h12 : tryE z w l1 l2 a b) (h23 : Imp z w l2 l3) (ha : l0 a ≠ []) : l3 b ≠ [] ∧ ¬ ahz z w (l0 a ++ [b]) (l3 b) := by
  obtain ⟨p1, p2⟩ := h01 a (l0 a) ha (fun q => ahz_asymm q q)
  obtain ⟨q1, q2⟩ := h12.done p1
  have e : lastOf (l1 a) = lastOf (l0 a) := by rw [(hf1.1 a p1).2.1, (hf0.1 a ha).2.1]
  exact h23 b _ q1 (nah_trans q2 (nah_snoc p1 ha e p2))
