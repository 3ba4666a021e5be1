/-! the reference's next token -/
def wo (i : Nat) : Nat := ([0, 7, 12, 19, 24, 30, 36, 41] : List Nat).getD i 0
def wl (i : Nat) : Nat := ([6, 4, 6, 4, 5, 5, 4] : List Nat).getD i 0
def Wd (i k : Nat) : Int := if k < wl i then wrdC ((wo i + k : Nat) : Int) - 96 else 0
theorem wd_lwd : ∀ i, i < 7 → lwd ((i : Nat) : Int) = pkV (Wd i) 6 := by decide +kernel
theorem wd_bd : ∀ i, i < 7 → (4 ≤ wl i ∧ wl i ≤ 6 ∧ wo i + wl i < 41 ∧ wo (i + 1) = wo i + (wl i + 1) ∧ wrdC ((wo i + wl i : Nat) : Int) = 32) ∧ ∀ k, k < 6 → (0 ≤ Wd i k ∧ Wd i k ≤ 31) ∧ (k < wl i → 1 ≤ Wd i k ∧ wrdC ((wo i + k : Nat) : Int) ≠ 32) := by decide +kernel
section MTK
variable {N : Nat} {σ : Sto} {C : Nat → Int} {n : Nat}
def BM (σ : Sto) (n : Nat) (C : Nat → Int) : Prop := n ≤ 700 ∧ σ.1 94 6 = n ∧ (∀ k : Nat, k < n → (-128 ≤ C k ∧ C k ≤ 127) ∧ σ.1 95 k = C k % 256) ∧ ∀ k : Nat, k < 41 → σ.1 96 k = wrdC k
theorem BM.cg {σ' : Sto} (h : BM σ n C) (e1 : σ'.1 94 6 = σ.1 94 6) (e2 : ∀ z, σ'.1 95 z = σ.1 95 z) (e3 : ∀ z, σ'.1 96 z = σ.1 96 z) : BM σ' n C := ⟨h.1, by rw [e1]; exact h.2.1, fun k hk => by rw [e2]; exact h.2.2.1 k hk, fun k hk => by rw [e3]; exact h.2.2.2 k hk⟩
theorem BM.up (h : BM σ n C) {j v : Int} (hj : j ≠ 6) : BM (upI σ 94 j v) n C := h.cg (up_ix (fun z => hj z.symm)) (fun z => up_pl (by decide)) (fun z => up_pl (by decide))
def mat (C : Nat → Int) (s e i : Nat) : Prop := e - s = wl i ∧ ∀ k, k < wl i → C (s + k) = wrdC ((wo i + k : Nat) : Int)
theorem mat_iff {s e i : Nat} (h : IsE cLe C n s e) (h0 : s < e) (hm : e - s ≤ 6) (hi : i < 7) : mat C s e i ↔ pkV (Lt C s (e - s)) 6 = lwd i := by
  obtain ⟨⟨w1, w2, w3, w4, w5⟩, w6⟩ := wd_bd i hi
  have le : ∀ i, i < e - s → 97 ≤ C (s + i) ∧ C (s + i) ≤ 122 := fun i hi => of_decide_eq_true (h.2.2.1 (s + i) (by omega) (by omega))
  rw [wd_lwd i hi]
  constructor
  · rintro ⟨a, c⟩
    refine pkV_congr (fun k hk => ?_)
    unfold Lt Wd
    rw [a]
    by_cases q : k < wl i
    · rw [if_pos q, if_pos q, c k q]
    · rw [if_neg q, if_neg q]
  · intro he
    have eq := pkV_inj (fun k _ => lt_bd h k) (fun k hk => (w6 k hk).1) he
    have lm : e - s = wl i := by
      rcases Nat.lt_trichotomy (e - s) (wl i) with z | z | z
      · have a := eq (e - s) (by omega)
        have c := (w6 (e - s) (by omega)).2 z
        unfold Lt at a
        rw [if_neg (by omega)] at a
        omega
      · exact z
      · have a := eq (wl i) (by omega)
        have d := le (wl i) z
        unfold Lt Wd at a
        rw [if_pos z, if_neg (by omega)] at a
        omega
    refine ⟨lm, fun k hk => ?_⟩
    have a := eq k (by omega)
    unfold Lt Wd at a
    rw [if_pos (by omega), if_pos hk] at a
    omega
theorem m_wordAt (hN : BigN N) (B : BM σ n C) {s e : Nat} (h : IsE cLe C n s e) (h0 : s < e) : ∃ r : Int, F_X12_wordAt N s e σ = some r ∧ ((∃ i : Nat, i < 7 ∧ r = i ∧ mat C s e i) ∨ (r = -1 ∧ ∀ i : Nat, i < 7 → ¬ mat C s e i)) := by
  have b1 := B.1
  have he := h.2.1
  have le : ∀ i, i < e - s → 97 ≤ C (s + i) ∧ C (s + i) ≤ 122 := fun i hi => of_decide_eq_true (h.2.2.1 (s + i) (by omega) (by omega))
  have one : ∀ i : Nat, i < 7 → ∃ r : Int, ((r = 1 ∧ mat C s e i) ∨ (r = 0 ∧ ¬ mat C s e i)) ∧ ∀ nx5, F_X12_wordAt_B5 N nx5 s e i (wo i : Nat) σ = F_X12_wordAt_J104 N nx5 s e i (wo i : Nat) (wl i : Nat) r σ := fun i hi => by
    obtain ⟨⟨w1, w2, w3, w4, w5⟩, w6⟩ := wd_bd i hi
    have cnt : ∀ nx5, F_X12_wordAt_B5 N nx5 s e i (wo i : Nat) σ = F_X12_wordAt_J39 N nx5 s e i (wo i : Nat) (wl i : Nat) σ := fun nx5 => by
      unfold F_X12_wordAt_B5
      rw [if_neg (by omega)]
      refine loopK_for (b := fun q nx18 => F_X12_wordAt_B18 N nx5 nx18 s e i (wo i : Nat) q σ) (s := fun k => ((k : Nat) : Int)) (wl i) (bigN hN) (fun k hk nx => ?_) (fun nx => ?_)
      · show F_X12_wordAt_B18 N nx5 nx s e i (wo i : Nat) k σ = nx ((k + 1 : Nat) : Int)
        unfold F_X12_wordAt_B18
        have a := B.2.2.2 (wo i + k) (by omega)
        rw [ja_eq ⟨by omega, by omega⟩, show ((wo i : Nat) : Int) + (k : Int) = ((wo i + k : Nat) : Int) by omega, inb_in (by omega), a, if_neg ((w6 k (by omega)).2 hk).2, ja_1 (by omega) (by omega)]; rfl
      · show F_X12_wordAt_B18 N nx5 nx s e i (wo i : Nat) (wl i : Nat) σ = _
        unfold F_X12_wordAt_B18
        have a := B.2.2.2 (wo i + wl i) (by omega)
        rw [ja_eq ⟨by omega, by omega⟩, show ((wo i : Nat) : Int) + ((wl i : Nat) : Int) = ((wo i + wl i : Nat) : Int) by omega, inb_in (by omega), a, if_pos w5]
    have hN1 : ∃ m, N = m + 1 := ⟨N - 1, by have := bigN hN (k := 1); omega⟩
    by_cases q : e - s = wl i
    · obtain ⟨r, r1, r2⟩ := loop_E (X := (Int × Int) → Option Int) (R' := Int) (b := fun x q nx57 => F_X12_wordAt_B57 N x nx57 s e i (wo i : Nat) (wl i : Nat) q.1 q.2 σ) (fin := fun x r => F_X12_wordAt_J104 N x s e i (wo i : Nat) (wl i : Nat) r σ) (N := N) (s0 := ((1 : Int), (0 : Int))) (fun k q => q.2 = k ∧ ((q.1 = 1 ∧ ∀ j, j < k → C (s + j) = wrdC ((wo i + j : Nat) : Int)) ∨ (q.1 = 0 ∧ ∃ j, j < k ∧ C (s + j) ≠ wrdC ((wo i + j : Nat) : Int)))) (fun r => (r = 1 ∧ mat C s e i) ∨ (r = 0 ∧ ¬ mat C s e i)) (wl i) (bigN hN) ⟨rfl, Or.inl ⟨rfl, fun j hj => by omega⟩⟩ (fun k q' hk hI => by
        obtain ⟨v6, v7⟩ := q'
        obtain ⟨i1, i2⟩ := hI
        have i1 : v7 = k := i1
        subst i1
        rcases i2 with ⟨j1, j2⟩ | ⟨j1, j, j2, j3⟩
        · have j1 : v6 = 1 := j1
          subst j1
          by_cases e1 : k = wl i
          · subst e1
            refine Or.inr ⟨1, Or.inl ⟨rfl, q, j2⟩, fun x nx => ?_⟩
            show F_X12_wordAt_B57 N x nx s e i (wo i : Nat) (wl i : Nat) 1 (wl i : Nat) σ = _
            unfold F_X12_wordAt_B57
            rw [if_pos (Int.le_refl _)]
          · have a := B.2.2.2 (wo i + k) (by omega)
            have c := B.2.2.1 (s + k) (by omega)
            have d := le k (by omega)
            have cm : C (s + k) % 256 = C (s + k) := by omega
            by_cases z : C (s + k) = wrdC ((wo i + k : Nat) : Int)
            · refine Or.inl ⟨by omega, (1, (k : Int) + 1), ⟨by show (k : Int) + 1 = ((k + 1 : Nat) : Int); omega, Or.inl ⟨rfl, fun j hj => ?_⟩⟩, fun x nx => ?_⟩
              · by_cases y : j = k
                · subst y; exact z
                · exact j2 j (by omega)
              · show F_X12_wordAt_B57 N x nx s e i (wo i : Nat) (wl i : Nat) 1 k σ = _
                unfold F_X12_wordAt_B57 F_X12_wordAt_J96
                rw [if_neg (by omega), if_neg (by decide), ja_eq ⟨by omega, by omega⟩, ja_eq ⟨by omega, by omega⟩, show ((wo i : Nat) : Int) + (k : Int) = ((wo i + k : Nat) : Int) by omega, show (s : Int) + (k : Int) = ((s + k : Nat) : Int) by omega, inb_in (by omega), inb_in (by omega), a, c.2, cm, if_pos z.symm, ja_1 (by omega) (by omega)]
            · refine Or.inl ⟨by omega, (0, (k : Int) + 1), ⟨by show (k : Int) + 1 = ((k + 1 : Nat) : Int); omega, Or.inr ⟨rfl, k, by omega, z⟩⟩, fun x nx => ?_⟩
              show F_X12_wordAt_B57 N x nx s e i (wo i : Nat) (wl i : Nat) 1 k σ = _
              unfold F_X12_wordAt_B57 F_X12_wordAt_J96
              rw [if_neg (by omega), if_neg (by decide), ja_eq ⟨by omega, by omega⟩, ja_eq ⟨by omega, by omega⟩, show ((wo i : Nat) : Int) + (k : Int) = ((wo i + k : Nat) : Int) by omega, show (s : Int) + (k : Int) = ((s + k : Nat) : Int) by omega, inb_in (by omega), inb_in (by omega), a, c.2, cm, if_neg (fun y => z y.symm), ja_1 (by omega) (by omega)]
        · have j1 : v6 = 0 := j1
          subst j1
          refine Or.inr ⟨0, Or.inr ⟨rfl, fun m => j3 (m.2 j (by omega))⟩, fun x nx => ?_⟩
          show F_X12_wordAt_B57 N x nx s e i (wo i : Nat) (wl i : Nat) 0 k σ = _
          unfold F_X12_wordAt_B57
          by_cases y : ((wl i : Nat) : Int) ≤ (k : Int)
          · rw [if_pos y]
          · rw [if_neg y, if_pos rfl])
      refine ⟨r, r1, fun nx5 => ?_⟩
      rw [cnt nx5]
      unfold F_X12_wordAt_J39 F_X12_wordAt_J52
      rw [js_eq ⟨by omega, by omega⟩, if_pos (by omega)]
      exact r2 nx5
    · refine ⟨0, Or.inr ⟨rfl, fun m => q m.1⟩, fun nx5 => ?_⟩
      rw [cnt nx5]
      unfold F_X12_wordAt_J39 F_X12_wordAt_J52
      rw [js_eq ⟨by omega, by omega⟩, if_neg (by omega)]
      obtain ⟨m, hm⟩ := hN1
      rw [hm]
      show F_X12_wordAt_B57 (m + 1) nx5 _ s e i (wo i : Nat) (wl i : Nat) 0 0 σ = _
      unfold F_X12_wordAt_B57
      rw [if_neg (by omega), if_pos rfl]
  unfold F_X12_wordAt
  obtain ⟨r, r1, r2⟩ := loop_E (X := Unit) (R' := Int) (b := fun _ q nx5 => F_X12_wordAt_B5 N nx5 s e q.1 q.2 σ) (fin := fun _ r => some r) (N := N) (s0 := ((0 : Int), (0 : Int))) (fun i q => q.1 = i ∧ q.2 = (wo i : Nat) ∧ ∀ j, j < i → ¬ mat C s e j) (fun r => (∃ i : Nat, i < 7 ∧ r = i ∧ mat C s e i) ∨ (r = -1 ∧ ∀ i : Nat, i < 7 → ¬ mat C s e i)) 7 (bigN hN) ⟨rfl, rfl, fun j hj => by omega⟩ (fun i q hi hI => by
    obtain ⟨v3, v4⟩ := q
    obtain ⟨i1, i2, i3⟩ := hI
    have i1 : v3 = i := i1
    have i2 : v4 = (wo i : Nat) := i2
    subst i1; subst i2
    by_cases e7 : i = 7
    · subst e7
      refine Or.inr ⟨-1, Or.inr ⟨rfl, i3⟩, fun _ nx => ?_⟩
      show F_X12_wordAt_B5 N nx s e ((7 : Nat) : Int) ((41 : Nat) : Int) σ = _
      unfold F_X12_wordAt_B5
      rw [if_pos (by omega)]
    · obtain ⟨⟨w1, w2, w3, w4, w5⟩, w6⟩ := wd_bd i (by omega)
      obtain ⟨r, r1, r2⟩ := one i (by omega)
      rcases r1 with ⟨rfl, r1⟩ | ⟨rfl, r1⟩
      · refine Or.inr ⟨i, Or.inl ⟨i, by omega, rfl, r1⟩, fun _ nx => ?_⟩
        show F_X12_wordAt_B5 N nx s e i (wo i : Nat) σ = _
        rw [r2 nx]
        unfold F_X12_wordAt_J104
        rw [if_neg (by decide)]
      · refine Or.inl ⟨by omega, ((i : Int) + 1, ((wo (i + 1) : Nat) : Int)), ⟨by show (i : Int) + 1 = ((i + 1 : Nat) : Int); omega, rfl, fun j hj => ?_⟩, fun _ nx => ?_⟩
        · by_cases z : j = i
          · subst z; exact r1
          · exact i3 j (by omega)
        · show F_X12_wordAt_B5 N nx s e i (wo i : Nat) σ = _
          rw [r2 nx]
          unfold F_X12_wordAt_J104
          rw [if_pos rfl, ja_1 (k := (i : Int)) (by omega) (by omega), ja_1 (by omega) (by omega), ja_eq ⟨by omega, by omega⟩, w4, show ((wo i : Nat) : Int) + (((wl i : Nat) : Int) + 1) = ((wo i + (wl i + 1) : Nat) : Int) by omega])
  exact ⟨r, r2 (), r1⟩
theorem m_isSmall (B : BM σ n C) (p : Nat) : F_X12_isSmall N (p : Int) σ = some (if p < n ∧ cLe (C p) = true then 1 else 0) := by
  have b1 := B.1
  unfold F_X12_isSmall F_X12_isSmall_J34
  rw [B.2.1]
  by_cases h : p < n
  · have c := B.2.2.1 p h
    rw [if_neg (by omega), inb_in (by omega), c.2]
    by_cases q : cLe (C p) = true
    · have d := of_decide_eq_true q
      rw [if_neg (by omega), if_neg (by omega), if_pos ⟨h, q⟩]
    · rw [if_neg (show ¬ (p < n ∧ cLe (C p) = true) from fun z => q z.2)]
      have d : ¬ (97 ≤ C p ∧ C p ≤ 122) := fun z => q (decide_eq_true z)
      by_cases z : C p % 256 < 97
      · rw [if_pos z]
      · rw [if_neg z, if_pos (by omega)]
  · rw [if_pos (by omega), if_neg (fun z => h z.1)]
theorem m_isDigit (B : BM σ n C) (p : Nat) : F_X12_isDigit N (p : Int) σ = some (if p < n ∧ cDi (C p) = true then 1 else 0) := by
  have b1 := B.1
  unfold F_X12_isDigit F_X12_isDigit_J34
  rw [B.2.1]
  by_cases h : p < n
  · have c := B.2.2.1 p h
    rw [if_neg (by omega), inb_in (by omega), c.2]
    by_cases q : cDi (C p) = true
    · have d := of_decide_eq_true q
      rw [if_neg (by omega), if_neg (by omega), if_pos ⟨h, q⟩]
    · rw [if_neg (show ¬ (p < n ∧ cDi (C p) = true) from fun z => q z.2)]
      have d : ¬ (48 ≤ C p ∧ C p ≤ 57) := fun z => q (decide_eq_true z)
      by_cases z : C p % 256 < 48
      · rw [if_pos z]
      · rw [if_neg z, if_pos (by omega)]
  · rw [if_pos (by omega), if_neg (fun z => h z.1)]
theorem m_packed (hN : BigN N) (B : BM σ n C) {s e : Nat} (h : IsE cLe C n s e) (hm : e - s ≤ 6) : F_X12_packed N s e σ = some (pkV (Lt C s (e - s)) 6) := by
  have b1 := B.1
  have he := h.2.1
  have hse := h.1
  unfold F_X12_packed
  refine loopK_for (b := fun q nx5 => F_X12_packed_B5 N nx5 s e q.1 q.2 σ) (s := fun k => (pkV (Lt C s (e - s)) k, ((s + k : Nat) : Int))) 6 (bigN hN) (fun k hk nx => ?_) (fun nx => ?_)
  · have pb := pkV_bd (L := Lt C s (e - s)) (k := k) (fun i _ => lt_bd h i)
    have pl : p32 k ≤ 33554432 := by
      rcases (by omega : k = 0 ∨ k = 1 ∨ k = 2 ∨ k = 3 ∨ k = 4 ∨ k = 5) with rfl | rfl | rfl | rfl | rfl | rfl <;> decide
    have lb := lt_bd h k
    have js32 : jor (jshl (pkV (Lt C s (e - s)) k) 5) (Lt C s (e - s) k) = 32 * pkV (Lt C s (e - s)) k + Lt C s (e - s) k := jor_32 pb.1 (by omega) lb.1 lb.2
    show F_X12_packed_B5 N nx s e (pkV (Lt C s (e - s)) k) ((s + k : Nat) : Int) σ = nx (32 * pkV (Lt C s (e - s)) k + Lt C s (e - s) k, ((s + (k + 1) : Nat) : Int))
    unfold F_X12_packed_B5 F_X12_packed_J37
    rw [ja_eq ⟨by omega, by omega⟩, if_neg (by omega), ja_1 (by omega) (by omega), show ((s + k : Nat) : Int) + 1 = ((s + (k + 1) : Nat) : Int) by omega, ← js32]
    unfold Lt
    by_cases q : k < e - s
    · have c := B.2.2.1 (s + k) (by omega)
      have d := of_decide_eq_true (h.2.2.1 (s + k) (by omega) (by omega))
      rw [if_neg (by omega), inb_in (by omega), c.2, if_pos q, show C (s + k) % 256 = C (s + k) by omega, js_eq ⟨by omega, by omega⟩]
    · rw [if_pos (by omega), if_neg q]
  · show F_X12_packed_B5 N nx s e (pkV (Lt C s (e - s)) 6) ((s + 6 : Nat) : Int) σ = _
    unfold F_X12_packed_B5
    rw [ja_eq ⟨by omega, by omega⟩, if_pos (by omega)]
end MTK
