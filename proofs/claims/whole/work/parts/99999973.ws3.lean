/-! .. its own row, and the loop -/
def fldB (k j : Nat) : Bool := !(decide (10 ≤ (knd k).1) && decide (j < (knd k).2)) || ((!decide ((fld ((knd k).1 - 10) j).1 = 1) || decide (k + (fld ((knd k).1 - 10) j).2 < 113)) && (!decide ((fld ((knd k).1 - 10) j).1 = 2) || (decide (k = 0) && (decide (j = 1) || decide (j = 2)))))
theorem fld_b : (List.range 113).all (fun k => (List.range 48).all (fun j => fldB k j)) = true := by decide +kernel
theorem fld_in (k : Nat) (hk : k < 113) (j : Nat) (hj : j < 48) (h1 : 10 ≤ (knd k).1) (h2 : j < (knd k).2) : ((fld ((knd k).1 - 10) j).1 = 1 → k + (fld ((knd k).1 - 10) j).2 < 113) ∧ ((fld ((knd k).1 - 10) j).1 = 2 → k = 0 ∧ (j = 1 ∨ j = 2)) := by
  have q : fldB k j = true := List.all_eq_true.mp (List.all_eq_true.mp fld_b k (List.mem_range.mpr hk)) j (List.mem_range.mpr hj)
  unfold fldB at q
  rw [decide_eq_true h1, decide_eq_true h2] at q
  simp only [Bool.and_true, Bool.not_true, Bool.false_or, Bool.and_eq_true, Bool.or_eq_true, Bool.not_eq_true', decide_eq_true_eq, decide_eq_false_iff_not] at q
  exact ⟨fun z => q.1.resolve_left (fun n => n z), fun z => q.2.resolve_left (fun n => n z)⟩
theorem knd_sz : ∀ k, k < 113 → 10 ≤ (knd k).1 → (knd k).2 ≤ 48 := by decide +kernel
theorem knd_ty : ∀ k, k < 113 → (knd k).1 = 0 ∨ (knd k).1 = 1 ∨ (knd k).1 = 2 ∨ 10 ≤ (knd k).1 := by decide +kernel
def σZ (σ : Sto) : Sto := (σ.1, fun k j => if k = 113 then 0 else σ.2 k j)
theorem cell_g2 {g' g'' : Geo} {σ : Sto} (h1 : g''.2.1 = g'.2.1) (hv : ∀ k, k < 113 → g''.2.2 k = g'.2.2 k) (h01 : (σ.1 0 1).toNat < 113) (h02 : (σ.1 0 2).toNat < 113) {k : Nat} (hk : k < 113) : cellE g'' (σZ σ) k = cellE g' σ k := by
  rw [cellE_congr (σ := σZ σ) (σ' := σ) (fun _ => rfl) (fun j => if_neg (by omega))]
  unfold cellE
  rw [h1]
  rcases knd_ty k hk with z | z | z | z
  · rw [if_pos z, if_pos z]
  · rw [if_neg (by omega), if_pos z, if_neg (by omega), if_pos z]
  · rw [if_neg (by omega), if_neg (by omega), if_pos z, if_neg (by omega), if_neg (by omega), if_pos z]
  · rw [if_neg (by omega), if_neg (by omega), if_neg (by omega), if_neg (by omega), if_neg (by omega), if_neg (by omega), if_neg (by omega), if_neg (by omega)]
    congr 2
    apply List.map_congr_left
    intro j hj
    have hj := List.mem_range.mp hj
    have q := fld_in k hk j (by have := knd_sz k hk z; omega) z hj
    unfold fval
    by_cases y1 : (fld ((knd k).1 - 10) j).1 = 1
    · rw [y1, if_neg (by decide), if_pos rfl, if_neg (by decide), if_pos rfl]
      show Value.ref _ = Value.ref _
      rw [hv _ (q.1 y1)]
    · by_cases y2 : (fld ((knd k).1 - 10) j).1 = 2
      · rw [y2, if_neg (by decide), if_neg (by decide), if_pos rfl, if_neg (by decide), if_neg (by decide), if_pos rfl]
        obtain ⟨rfl, rfl | rfl⟩ := q.2 y2
        · show Value.ref (g''.2.2 (σ.1 0 1).toNat) = Value.ref (g'.2.2 (σ.1 0 1).toNat)
          rw [hv _ h01]
        · show Value.ref (g''.2.2 (σ.1 0 2).toNat) = Value.ref (g'.2.2 (σ.1 0 2).toNat)
          rw [hv _ h02]
      · rw [if_neg y1, if_neg y2, if_neg y1, if_neg y2]
theorem INV.z {σ : Sto} (H : INV σ) : INV (σZ σ) := by
  obtain ⟨b, D, u, Ds, i1, i2, i3, i4, i5, i6, i7, i8⟩ := H
  exact ⟨b, D, u, Ds, i1.cg3 (fun _ _ _ => rfl) (i1.2.2.2.2.1.cg (fun _ => rfl) (fun j' => (if_neg (by decide) : (if (49 : Nat) = 113 then (0 : Int) else σ.2 49 j') = σ.2 49 j'))), i2, i3, i4, i5, i6, i7, i8⟩
