/-! .. its own row is made, and the loop begins -/
theorem big_is : ∃ N : Nat, BigN N := ⟨10000000000000000000000000000000000000000, Nat.le_refl _⟩
/-- the places once the law's own row is there -/
def kG (g : Geo) (q : Nat) : Geo := (g.1, g.2.1, fun i => if i = 113 then q else if i = 300 then 114 else g.2.2 i)
theorem kG_v (g : Geo) (q i : Nat) (hi : i < 113) : (kG g q).2.2 i = g.2.2 i := by
  show (if i = 113 then q else if i = 300 then 114 else g.2.2 i) = _
  rw [if_neg (by omega), if_neg (by omega)]
theorem kG_113 (g : Geo) (q : Nat) : (kG g q).2.2 113 = q := rfl
theorem kG_np (g : Geo) (q : Nat) : npo (kG g q) = 114 := rfl
theorem kG_200 (g : Geo) (q : Nat) : (kG g q).2.2 200 = g.2.2 200 := rfl
theorem kG_inj {g : Geo} {q : Nat} (hI : Inj g) (hn : npo g = 113) (lt : ∀ i, i < 113 → g.2.2 i < q) : Inj (kG g q) := by
  refine ⟨by rw [kG_np]; decide, fun i j hi hj e => ?_⟩
  rw [kG_np] at hi hj
  rcases Nat.lt_or_ge i 113 with z | z <;> rcases Nat.lt_or_ge j 113 with y | y
  · rw [kG_v g q i z, kG_v g q j y] at e
    exact hI.2 i j (by rw [hn]; exact z) (by rw [hn]; exact y) e
  · rw [kG_v g q i z, show j = 113 by omega, kG_113] at e
    have := lt i z; omega
  · rw [kG_v g q j y, show i = 113 by omega, kG_113] at e
    have := lt j y; omega
  · omega
theorem kG_fr {g : Geo} {q z0 : Nat} (hf : ∀ i, i < 113 → z0 ≤ g.2.2 i) (hq : z0 ≤ q) : ∀ i, i < npo (kG g q) → z0 ≤ (kG g q).2.2 i := fun i hi => by
  rw [kG_np] at hi
  rcases Nat.lt_or_ge i 113 with z | z
  · rw [kG_v g q i z]; exact hf i z
  · rw [show i = 113 by omega, kG_113]; exact hq
theorem kG_P {g : Geo} {σ : Sto} {H H1 : Heap} (hn : npo g = 113) (h01 : (σ.1 0 1).toNat < 113) (h02 : (σ.1 0 2).toNat < 113) (lt : ∀ i, i < 113 → g.2.2 i < H.size) (hP : va_P g.1 vwCl (wd g σ) H) (e1 : H1[H.size]? = some (arrV g.2.1.2.2.2 1 (fun _ => .long 0))) (o1 : ∀ q, q < H.size → H1[q]? = H[q]?) : va_P (kG g H.size).1 vwCl (wd (kG g H.size) (σZ σ)) H1 := by
  intro i q hq
  have hi : i < 114 := by
    rcases Nat.lt_or_ge i 114 with z | z
    · exact z
    · rw [List.getElem?_eq_none (by unfold wd; rw [List.length_map, List.length_range, kG_np]; exact z)] at hq; cases hq
  rw [wd_at (by rw [kG_np]; exact hi)] at hq
  obtain rfl := Option.some.inj hq
  rcases Nat.lt_or_ge i 113 with z | z
  · have h := hP i _ (wd_at (g := g) (σ := σ) (k := i) (by rw [hn]; exact z))
    rw [kG_v g H.size i z, cell_g2 (g' := g) (g'' := kG g H.size) rfl (kG_v g H.size) h01 h02 z]
    exact va_at.kept h (o1 _ (lt i z))
  · obtain rfl : i = 113 := by omega
    rw [cell_l (g := kG g H.size) (σ := σZ σ) (k := 113) (n := 1) (by decide +kernel), kG_113]
    show H1[H.size]? = some (vp_cell g.2.1.2.2.2 (1, .inr (.inl (fun j : Nat => Int64.ofInt ((σZ σ).2 113 j)))))
    rw [e1]
    rfl
