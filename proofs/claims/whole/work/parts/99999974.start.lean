theorem getD_R : ∀ (l : List Int) (n : Nat), (∀ x ∈ l, inR x) → inR (l.getD n 0) := by
  intro l n h
  rw [List.getD_eq_getElem?_getD]
  cases q : l[n]? with
  | none => exact ⟨by decide, by decide⟩
  | some x => exact h x (List.mem_of_getElem? q)
theorem ok_st0 : OK st0 := by
  intro k j
  show inR (if k = 3 ∧ j = 10 then (75 : Int) else if k = 16 ∧ j = 10 then 75 else if k = 1 ∧ j = 10 then -1 else if k = 0 ∧ j = 1 then 3 else if k = 0 ∧ j = 2 then 16 else if k = 94 ∧ (j = 5 ∨ j = 31 ∨ j = 38) then -1 else if k = 96 then wordsF j else if k = 100 then toldF j else 0)
  have w : inR (wordsF j) := getD_R _ _ (by unfold inR; decide)
  have t : inR (toldF j) := getD_R _ _ (by unfold inR; decide)
  repeat' split
  all_goals first | exact w | exact t | exact ⟨by decide, by decide⟩
theorem nest_in : nestL.all (fun w => decide (w ∈ tables_1)) = true := by decide +kernel
