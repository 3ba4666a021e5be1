set_option maxHeartbeats 4000000 in
set_option maxRecDepth 100000 in
theorem at12a (g : Geo) (a : Nat → Nat) (h0 q1 q2 q3 q4 q5 q6 q7 q8 q9 q10 q11 q12 q13 q14 q15 q16 q17 q18 : Nat) : ∀ k, k < 94 → (flat11 g a)[k]? = some ((g12 g a h0 q1 q2 q3 q4 q5 q6 q7 q8 q9 q10 q11 q12 q13 q14 q15 q16 q17 q18).2.2 k, cellE (g12 g a h0 q1 q2 q3 q4 q5 q6 q7 q8 q9 q10 q11 q12 q13 q14 q15 q16 q17 q18) st0 k) := by
  intro k hk
  match k, hk with
  | 0, _ => rw [cz0]; rfl
  | 1, _ => rw [cz1]; rfl
  | 2, _ => rw [cz2]; rfl
  | 3, _ => rw [cz3]; rfl
  | 4, _ => rw [cz4]; rfl
  | 5, _ => rw [cz5]; rfl
  | 6, _ => rw [cz6]; rfl
  | 7, _ => rw [cz7]; rfl
  | 8, _ => rw [cz8]; rfl
  | 9, _ => rw [cz9]; rfl
  | 10, _ => rw [cz10]; rfl
  | 11, _ => rw [cz11]; rfl
  | 12, _ => rw [cz12]; rfl
  | 13, _ => rw [cz13]; rfl
  | 14, _ => rw [cz14]; rfl
  | 15, _ => rw [cz15]; rfl
  | 16, _ => rw [cz16]; rfl
  | 17, _ => rw [cz17]; rfl
  | 18, _ => rw [cz18]; rfl
  | 19, _ => rw [cz19]; rfl
  | 20, _ => rw [cz20]; rfl
  | 21, _ => rw [cz21]; rfl
  | 22, _ => rw [cz22]; rfl
  | 23, _ => rw [cz23]; rfl
  | 24, _ => rw [cz24]; rfl
  | 25, _ => rw [cz25]; rfl
  | 26, _ => rw [cz26]; rfl
  | 27, _ => rw [cz27]; rfl
  | 28, _ => rw [cz28]; rfl
  | 29, _ => rw [cz29]; rfl
  | 30, _ => rw [cz30]; rfl
  | 31, _ => rw [cz31]; rfl
  | 32, _ => rw [cz32]; rfl
  | 33, _ => rw [cz33]; rfl
  | 34, _ => rw [cz34]; rfl
  | 35, _ => rw [cz35]; rfl
  | 36, _ => rw [cz36]; rfl
  | 37, _ => rw [cz37]; rfl
  | 38, _ => rw [cz38]; rfl
  | 39, _ => rw [cz39]; rfl
  | 40, _ => rw [cz40]; rfl
  | 41, _ => rw [cz41]; rfl
  | 42, _ => rw [cz42]; rfl
  | 43, _ => rw [cz43]; rfl
  | 44, _ => rw [cz44]; rfl
  | 45, _ => rw [cz45]; rfl
  | 46, _ => rw [cz46]; rfl
  | 47, _ => rw [cz47]; rfl
  | 48, _ => rw [cz48]; rfl
  | 49, _ => rw [cz49]; rfl
  | 50, _ => rw [cz50]; rfl
  | 51, _ => rw [cz51]; rfl
  | 52, _ => rw [cz52]; rfl
  | 53, _ => rw [cz53]; rfl
  | 54, _ => rw [cz54]; rfl
  | 55, _ => rw [cz55]; rfl
  | 56, _ => rw [cz56]; rfl
  | 57, _ => rw [cz57]; rfl
  | 58, _ => rw [cz58]; rfl
  | 59, _ => rw [cz59]; rfl
  | 60, _ => rw [cz60]; rfl
  | 61, _ => rw [cz61]; rfl
  | 62, _ => rw [cz62]; rfl
  | 63, _ => rw [cz63]; rfl
  | 64, _ => rw [cz64]; rfl
  | 65, _ => rw [cz65]; rfl
  | 66, _ => rw [cz66]; rfl
  | 67, _ => rw [cz67]; rfl
  | 68, _ => rw [cz68]; rfl
  | 69, _ => rw [cz69]; rfl
  | 70, _ => rw [cz70]; rfl
  | 71, _ => rw [cz71]; rfl
  | 72, _ => rw [cz72]; rfl
  | 73, _ => rw [cz73]; rfl
  | 74, _ => rw [cz74]; rfl
  | 75, _ => rw [cz75]; rfl
  | 76, _ => rw [cz76]; rfl
  | 77, _ => rw [cz77]; rfl
  | 78, _ => rw [cz78]; rfl
  | 79, _ => rw [cz79]; rfl
  | 80, _ => rw [cz80]; rfl
  | 81, _ => rw [cz81]; rfl
  | 82, _ => rw [cz82]; rfl
  | 83, _ => rw [cz83]; rfl
  | 84, _ => rw [cz84]; rfl
  | 85, _ => rw [cz85]; rfl
  | 86, _ => rw [cz86]; rfl
  | 87, _ => rw [cz87]; rfl
  | 88, _ => rw [cz88]; rfl
  | 89, _ => rw [cz89]; rfl
  | 90, _ => rw [cz90]; rfl
  | 91, _ => rw [cz91]; rfl
  | 92, _ => rw [cz92]; rfl
  | 93, _ => rw [cz93]; rfl
  | k + 94, hk => exact absurd hk (by omega)
set_option maxHeartbeats 4000000 in
set_option maxRecDepth 100000 in
theorem at12b (g : Geo) (a : Nat → Nat) (h0 q1 q2 q3 q4 q5 q6 q7 q8 q9 q10 q11 q12 q13 q14 q15 q16 q17 q18 : Nat) : ∀ k, k < 19 → (m12 g h0 q1 q2 q3 q4 q5 q6 q7 q8 q9 q10 q11 q12 q13 q14 q15 q16 q17 q18)[k]? = some ((g12 g a h0 q1 q2 q3 q4 q5 q6 q7 q8 q9 q10 q11 q12 q13 q14 q15 q16 q17 q18).2.2 (k + 94), cellE (g12 g a h0 q1 q2 q3 q4 q5 q6 q7 q8 q9 q10 q11 q12 q13 q14 q15 q16 q17 q18) st0 (k + 94)) := by
  intro k hk
  match k, hk with
  | 0, _ => show _ = some ((g12 g a h0 q1 q2 q3 q4 q5 q6 q7 q8 q9 q10 q11 q12 q13 q14 q15 q16 q17 q18).2.2 94, cellE (g12 g a h0 q1 q2 q3 q4 q5 q6 q7 q8 q9 q10 q11 q12 q13 q14 q15 q16 q17 q18) st0 94); rw [cz94]; rfl
  | 1, _ => show _ = some ((g12 g a h0 q1 q2 q3 q4 q5 q6 q7 q8 q9 q10 q11 q12 q13 q14 q15 q16 q17 q18).2.2 95, cellE (g12 g a h0 q1 q2 q3 q4 q5 q6 q7 q8 q9 q10 q11 q12 q13 q14 q15 q16 q17 q18) st0 95); rw [cz95]; rfl
  | 2, _ => show _ = some ((g12 g a h0 q1 q2 q3 q4 q5 q6 q7 q8 q9 q10 q11 q12 q13 q14 q15 q16 q17 q18).2.2 96, cellE (g12 g a h0 q1 q2 q3 q4 q5 q6 q7 q8 q9 q10 q11 q12 q13 q14 q15 q16 q17 q18) st0 96); rw [cz96]; rfl
  | 3, _ => show _ = some ((g12 g a h0 q1 q2 q3 q4 q5 q6 q7 q8 q9 q10 q11 q12 q13 q14 q15 q16 q17 q18).2.2 97, cellE (g12 g a h0 q1 q2 q3 q4 q5 q6 q7 q8 q9 q10 q11 q12 q13 q14 q15 q16 q17 q18) st0 97); rw [cz97]; rfl
  | 4, _ => show _ = some ((g12 g a h0 q1 q2 q3 q4 q5 q6 q7 q8 q9 q10 q11 q12 q13 q14 q15 q16 q17 q18).2.2 98, cellE (g12 g a h0 q1 q2 q3 q4 q5 q6 q7 q8 q9 q10 q11 q12 q13 q14 q15 q16 q17 q18) st0 98); rw [cz98]; rfl
  | 5, _ => show _ = some ((g12 g a h0 q1 q2 q3 q4 q5 q6 q7 q8 q9 q10 q11 q12 q13 q14 q15 q16 q17 q18).2.2 99, cellE (g12 g a h0 q1 q2 q3 q4 q5 q6 q7 q8 q9 q10 q11 q12 q13 q14 q15 q16 q17 q18) st0 99); rw [cz99]; rfl
  | 6, _ => show _ = some ((g12 g a h0 q1 q2 q3 q4 q5 q6 q7 q8 q9 q10 q11 q12 q13 q14 q15 q16 q17 q18).2.2 100, cellE (g12 g a h0 q1 q2 q3 q4 q5 q6 q7 q8 q9 q10 q11 q12 q13 q14 q15 q16 q17 q18) st0 100); rw [cz100]; rfl
  | 7, _ => show _ = some ((g12 g a h0 q1 q2 q3 q4 q5 q6 q7 q8 q9 q10 q11 q12 q13 q14 q15 q16 q17 q18).2.2 101, cellE (g12 g a h0 q1 q2 q3 q4 q5 q6 q7 q8 q9 q10 q11 q12 q13 q14 q15 q16 q17 q18) st0 101); rw [cz101]; rfl
  | 8, _ => show _ = some ((g12 g a h0 q1 q2 q3 q4 q5 q6 q7 q8 q9 q10 q11 q12 q13 q14 q15 q16 q17 q18).2.2 102, cellE (g12 g a h0 q1 q2 q3 q4 q5 q6 q7 q8 q9 q10 q11 q12 q13 q14 q15 q16 q17 q18) st0 102); rw [cz102]; rfl
  | 9, _ => show _ = some ((g12 g a h0 q1 q2 q3 q4 q5 q6 q7 q8 q9 q10 q11 q12 q13 q14 q15 q16 q17 q18).2.2 103, cellE (g12 g a h0 q1 q2 q3 q4 q5 q6 q7 q8 q9 q10 q11 q12 q13 q14 q15 q16 q17 q18) st0 103); rw [cz103]; rfl
  | 10, _ => show _ = some ((g12 g a h0 q1 q2 q3 q4 q5 q6 q7 q8 q9 q10 q11 q12 q13 q14 q15 q16 q17 q18).2.2 104, cellE (g12 g a h0 q1 q2 q3 q4 q5 q6 q7 q8 q9 q10 q11 q12 q13 q14 q15 q16 q17 q18) st0 104); rw [cz104]; rfl
  | 11, _ => show _ = some ((g12 g a h0 q1 q2 q3 q4 q5 q6 q7 q8 q9 q10 q11 q12 q13 q14 q15 q16 q17 q18).2.2 105, cellE (g12 g a h0 q1 q2 q3 q4 q5 q6 q7 q8 q9 q10 q11 q12 q13 q14 q15 q16 q17 q18) st0 105); rw [cz105]; rfl
  | 12, _ => show _ = some ((g12 g a h0 q1 q2 q3 q4 q5 q6 q7 q8 q9 q10 q11 q12 q13 q14 q15 q16 q17 q18).2.2 106, cellE (g12 g a h0 q1 q2 q3 q4 q5 q6 q7 q8 q9 q10 q11 q12 q13 q14 q15 q16 q17 q18) st0 106); rw [cz106]; rfl
  | 13, _ => show _ = some ((g12 g a h0 q1 q2 q3 q4 q5 q6 q7 q8 q9 q10 q11 q12 q13 q14 q15 q16 q17 q18).2.2 107, cellE (g12 g a h0 q1 q2 q3 q4 q5 q6 q7 q8 q9 q10 q11 q12 q13 q14 q15 q16 q17 q18) st0 107); rw [cz107]; rfl
  | 14, _ => show _ = some ((g12 g a h0 q1 q2 q3 q4 q5 q6 q7 q8 q9 q10 q11 q12 q13 q14 q15 q16 q17 q18).2.2 108, cellE (g12 g a h0 q1 q2 q3 q4 q5 q6 q7 q8 q9 q10 q11 q12 q13 q14 q15 q16 q17 q18) st0 108); rw [cz108]; rfl
  | 15, _ => show _ = some ((g12 g a h0 q1 q2 q3 q4 q5 q6 q7 q8 q9 q10 q11 q12 q13 q14 q15 q16 q17 q18).2.2 109, cellE (g12 g a h0 q1 q2 q3 q4 q5 q6 q7 q8 q9 q10 q11 q12 q13 q14 q15 q16 q17 q18) st0 109); rw [cz109]; rfl
  | 16, _ => show _ = some ((g12 g a h0 q1 q2 q3 q4 q5 q6 q7 q8 q9 q10 q11 q12 q13 q14 q15 q16 q17 q18).2.2 110, cellE (g12 g a h0 q1 q2 q3 q4 q5 q6 q7 q8 q9 q10 q11 q12 q13 q14 q15 q16 q17 q18) st0 110); rw [cz110]; rfl
  | 17, _ => show _ = some ((g12 g a h0 q1 q2 q3 q4 q5 q6 q7 q8 q9 q10 q11 q12 q13 q14 q15 q16 q17 q18).2.2 111, cellE (g12 g a h0 q1 q2 q3 q4 q5 q6 q7 q8 q9 q10 q11 q12 q13 q14 q15 q16 q17 q18) st0 111); rw [cz111]; rfl
  | 18, _ => show _ = some ((g12 g a h0 q1 q2 q3 q4 q5 q6 q7 q8 q9 q10 q11 q12 q13 q14 q15 q16 q17 q18).2.2 112, cellE (g12 g a h0 q1 q2 q3 q4 q5 q6 q7 q8 q9 q10 q11 q12 q13 q14 q15 q16 q17 q18) st0 112); rw [cz112]; rfl
  | k + 19, hk => exact absurd hk (by omega)
theorem at12 (g : Geo) (a : Nat → Nat) (h0 q1 q2 q3 q4 q5 q6 q7 q8 q9 q10 q11 q12 q13 q14 q15 q16 q17 q18 : Nat) : ∀ k, k < 113 → (m12 g h0 q1 q2 q3 q4 q5 q6 q7 q8 q9 q10 q11 q12 q13 q14 q15 q16 q17 q18 ++ flat11 g a)[pidx k]? = some ((g12 g a h0 q1 q2 q3 q4 q5 q6 q7 q8 q9 q10 q11 q12 q13 q14 q15 q16 q17 q18).2.2 k, cellE (g12 g a h0 q1 q2 q3 q4 q5 q6 q7 q8 q9 q10 q11 q12 q13 q14 q15 q16 q17 q18) st0 k) := by
  intro k hk
  rcases Nat.lt_or_ge k 94 with h | h
  · rw [show pidx k = k + 19 from if_pos h, List.getElem?_append_right (by exact Nat.le_add_left 19 k)]
    exact (congrArg (fun z => (flat11 g a)[z]?) (show k + 19 - 19 = k by omega)).trans (at12a g a h0 q1 q2 q3 q4 q5 q6 q7 q8 q9 q10 q11 q12 q13 q14 q15 q16 q17 q18 k h)
  · rw [show pidx k = k - 94 from if_neg (by omega), List.getElem?_append_left (by show k - 94 < 19; omega)]
    have := at12b g a h0 q1 q2 q3 q4 q5 q6 q7 q8 q9 q10 q11 q12 q13 q14 q15 q16 q17 q18 (k - 94) (by omega)
    rw [show k - 94 + 94 = k by omega] at this
    exact this
