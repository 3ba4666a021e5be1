/-! the reference's token, whole -/
section MT2
variable {N : Nat} {σ : Sto} {C : Nat → Int} {n : Nat}
def kM (k : Int) : Int := if k = 4 then 6 else if k = 5 then 4 else if k = 6 then 5 else k
theorem up77 {a b : Int} : upI (upI σ 94 7 a) 94 7 b = upI σ 94 7 b := by
  unfold upI
  congr 1
  funext y z
  show (if y = 94 ∧ z = 7 then b else if y = 94 ∧ z = 7 then a else σ.1 y z) = if y = 94 ∧ z = 7 then b else σ.1 y z
  split <;> rfl
theorem up7e {p : Int} (h : σ.1 94 7 = p) : upI σ 94 7 p = σ := by
  unfold upI
  have : (fun y z => if y = 94 ∧ z = 7 then p else σ.1 y z) = σ.1 := by
    funext y z
    show (if y = 94 ∧ z = 7 then p else σ.1 y z) = σ.1 y z
    split
    · rename_i q; rw [q.1, q.2, h]
    · rfl
  rw [this]
/-- digits, to the number's end -/
theorem m_digits (hN : BigN N) (B : BM σ n C) {s e : Nat} (h : IsE cDi C n s e) (hs : σ.1 94 7 = s) : ∃ σ', F_X12_token_J283 N σ = F_X12_token_J352 N σ' ∧ σ'.1 94 7 = e ∧ σ'.1 94 9 = nmM C s (e - s) ∧ (∀ y z, ¬ (y = 94 ∧ (z = 7 ∨ z = 9)) → σ'.1 y z = σ.1 y z) ∧ σ'.2 = σ.2 := by
  have b1 := B.1
  have he := h.2.1
  have hse := h.1
  have dg : ∀ i, i < e - s → 48 ≤ C (s + i) ∧ C (s + i) ≤ 57 := fun i hi => of_decide_eq_true (h.2.2.1 (s + i) (by omega) (by omega))
  unfold F_X12_token_J283
  obtain ⟨τ, ⟨i1, i2, i3, i4⟩, h6⟩ := loop_A (b := fun q nx288 => F_X12_token_B288 N nx288 q) (fin := fun τ => F_X12_token_J352 N τ) (N := N) (s0 := upI σ 94 9 0) (fun k τ => τ.1 94 7 = ((s + k : Nat) : Int) ∧ τ.1 94 9 = nmM C s k ∧ (∀ y z, ¬ (y = 94 ∧ (z = 7 ∨ z = 9)) → τ.1 y z = σ.1 y z) ∧ τ.2 = σ.2) (e - s) (bigN hN) ⟨by rw [up_ix (by decide)]; exact hs, up_same, fun y z q => upI_ne (by omega), rfl⟩ (fun k τ hk hI => by
    obtain ⟨i1, i2, i3, i4⟩ := hI
    have Bk : BM τ n C := B.cg (i3 _ _ (by omega)) (fun z => i3 _ _ (by omega)) (fun z => i3 _ _ (by omega))
    have d := dg k hk
    have nb := nm_rel (C := C) (s := s) (k := k) (fun i hi => dg i (by omega))
    have c := Bk.2.2.1 (s + k) (by omega)
    have dt : cDi (C (s + k)) = true := h.2.2.1 (s + k) (by omega) (by omega)
    let v : Int := if nmM C s k ≤ 99999 then 10 * nmM C s k + C (s + k) - 48 else nmM C s k
    have e7 : (upI τ 94 9 v).1 94 7 = ((s + k : Nat) : Int) := by rw [up_ix (by decide)]; exact i1
    refine ⟨upI (upI τ 94 9 v) 94 7 ((s + (k + 1) : Nat) : Int), ⟨up_same, by rw [up_ix (by decide), up_same]; rfl, fun y z q => by rw [upI_ne (by omega), upI_ne (by omega)]; exact i3 y z q, i4⟩, fun nx => ?_⟩
    show F_X12_token_B288 N nx τ = _
    unfold F_X12_token_B288 F_X12_token_J336
    rw [i1, m_isDigit Bk, Option.bind_some, if_pos (show s + k < n ∧ cDi (C (s + k)) = true from ⟨by omega, dt⟩), if_neg (by decide), i2, inb_in (by omega), c.2, show C (s + k) % 256 = C (s + k) by omega]
    by_cases q : nmM C s k ≤ 99999
    · have ev : js (ja (jm 10 (nmM C s k)) (C (s + k))) 48 = v := by
        show _ = if nmM C s k ≤ 99999 then 10 * nmM C s k + C (s + k) - 48 else nmM C s k
        rw [if_pos q, jm_eq ⟨by omega, by omega⟩, ja_eq ⟨by omega, by omega⟩, js_eq ⟨by omega, by omega⟩]
      rw [if_pos q, ev, e7, ja_1 (by omega) (by omega), show ((s + k : Nat) : Int) + 1 = ((s + (k + 1) : Nat) : Int) by omega]
    · have ev : nmM C s k = v := by
        show _ = if nmM C s k ≤ 99999 then 10 * nmM C s k + C (s + k) - 48 else nmM C s k
        rw [if_neg q]
      rw [if_neg q]
      show nx (upI (upI τ 94 9 (nmM C s k)) 94 7 (ja ((upI τ 94 9 (nmM C s k)).1 94 7) 1)) = _
      rw [show upI τ 94 9 (nmM C s k) = upI τ 94 9 v by rw [← ev], e7, ja_1 (by omega) (by omega), show ((s + k : Nat) : Int) + 1 = ((s + (k + 1) : Nat) : Int) by omega]) (fun τ hI nx => by
    obtain ⟨i1, i2, i3, i4⟩ := hI
    have Bk : BM τ n C := B.cg (i3 _ _ (by omega)) (fun z => i3 _ _ (by omega)) (fun z => i3 _ _ (by omega))
    rw [show s + (e - s) = e by omega] at i1
    show F_X12_token_B288 N nx τ = F_X12_token_J352 N τ
    unfold F_X12_token_B288
    rw [i1, m_isDigit Bk, Option.bind_some, if_neg (show ¬ (e < n ∧ cDi (C e) = true) from fun z => by
      rcases h.2.2.2 with w | w
      · omega
      · rw [w] at z; exact absurd z.2 (by decide)), if_pos rfl])
  rw [show s + (e - s) = e by omega] at i1
  exact ⟨τ, h6, i1, i2, i3, i4⟩
theorem m_token (hN : BigN N) (B : BM σ n C) {p s e : Nat} {k v w : Int} (T : TokP C n p s e k v w) (hp : σ.1 94 7 = p) : ∃ σ', F_X12_token N σ = some σ' ∧ (σ'.1 94 7 = e ∧ σ'.1 94 10 = s ∧ σ'.1 94 8 = kM k) ∧ (1 ≤ k ∧ k ≤ 4 → σ'.1 94 9 = w) ∧ (∀ y z, ¬ (y = 94 ∧ 7 ≤ z ∧ z ≤ 10) → σ'.1 y z = σ.1 y z) ∧ σ'.2 = σ.2 := by
  obtain ⟨hE, T⟩ := T
  have b1 := B.1
  have hs1 := hE.1
  have hs2 := hE.2.1
  have lp : F_X12_token N σ = F_X12_token_J52 N (upI σ 94 7 (s : Int)) := by
    unfold F_X12_token
    rw [← up7e hp]
    refine loopK_for (b := fun q nx0 => F_X12_token_B0 N nx0 q) (s := fun k => upI σ 94 7 ((p + k : Nat) : Int)) (s - p) (bigN hN) (fun k hk nx => ?_) (fun nx => ?_)
    · have Bk : BM (upI σ 94 7 ((p + k : Nat) : Int)) n C := B.up (by decide)
      have c := Bk.2.2.1 (p + k) (by omega)
      have st := of_decide_eq_true (hE.2.2.1 (p + k) (by omega) (by omega))
      show F_X12_token_B0 N nx (upI σ 94 7 ((p + k : Nat) : Int)) = nx (upI σ 94 7 ((p + (k + 1) : Nat) : Int))
      unfold F_X12_token_B0 F_X12_token_J39
      rw [up_same, Bk.2.1, if_neg (by omega), inb_in (by omega), c.2, up77, ja_1 (by omega) (by omega), show ((p + k : Nat) : Int) + 1 = ((p + (k + 1) : Nat) : Int) by omega]
      rcases st with z | z
      · rw [if_pos (by omega)]
      · rw [if_neg (by omega), if_pos (by omega)]
    · have Bk : BM (upI σ 94 7 ((p + (s - p) : Nat) : Int)) n C := B.up (by decide)
      show F_X12_token_B0 N nx (upI σ 94 7 ((p + (s - p) : Nat) : Int)) = _
      unfold F_X12_token_B0
      rw [up_same, Bk.2.1, show p + (s - p) = s by omega, up7e hp]
      by_cases q : s = n
      · rw [if_pos (by omega)]
      · have c := B.2.2.1 s (by omega)
        have st : cBl (C s) = false := by
          rcases hE.2.2.2 with z | z
          · exact absurd z q
          · exact z
        have st := of_decide_eq_false st
        rw [if_neg (by omega), inb_in (by omega), up_pl (by decide), c.2, if_neg (by omega), if_neg (by omega)]
  rw [lp]
  let τ : Sto := upI (upI σ 94 7 (s : Int)) 94 10 (s : Int)
  have t7 : τ.1 94 7 = s := by show (upI (upI σ 94 7 (s : Int)) 94 10 (s : Int)).1 94 7 = _; rw [up_ix (by decide), up_same]
  have t10 : τ.1 94 10 = s := up_same
  have tf : ∀ y z, ¬ (y = 94 ∧ 7 ≤ z ∧ z ≤ 10) → τ.1 y z = σ.1 y z := fun y z q => by show (upI (upI σ 94 7 (s : Int)) 94 10 (s : Int)).1 y z = _; rw [upI_ne (by omega), upI_ne (by omega)]
  have Bt : BM τ n C := (B.up (by decide)).up (by decide)
  have t6 : τ.1 94 6 = n := Bt.2.1
  -- a sign, or nothing
  have sgn1 : s < n → e = s + 1 → (k = 5 ∧ C s = 59 ∨ k = 6 ∧ C s ≠ 59) → ∃ σ', F_X12_token_J373 N τ = some σ' ∧ (σ'.1 94 7 = e ∧ σ'.1 94 10 = s ∧ σ'.1 94 8 = kM k) ∧ (1 ≤ k ∧ k ≤ 4 → σ'.1 94 9 = w) ∧ (∀ y z, ¬ (y = 94 ∧ 7 ≤ z ∧ z ≤ 10) → σ'.1 y z = σ.1 y z) ∧ σ'.2 = σ.2 := fun h1 h2 h3 => by
    have c := Bt.2.2.1 s h1
    have fin : ∀ t1 : Int, t1 = kM k → ∃ σ', F_X12_token_J393 N t1 τ = some σ' ∧ (σ'.1 94 7 = e ∧ σ'.1 94 10 = s ∧ σ'.1 94 8 = kM k) ∧ (1 ≤ k ∧ k ≤ 4 → σ'.1 94 9 = w) ∧ (∀ y z, ¬ (y = 94 ∧ 7 ≤ z ∧ z ≤ 10) → σ'.1 y z = σ.1 y z) ∧ σ'.2 = σ.2 := fun t1 ht => by
      unfold F_X12_token_J393
      have e7 : (upI τ 94 8 t1).1 94 7 = s := by rw [up_ix (by decide)]; exact t7
      rw [e7, ja_1 (by omega) (by omega)]
      refine ⟨_, rfl, ⟨by rw [up_same, h2]; omega, by rw [up_ix (by decide), up_ix (by decide)]; exact t10, by rw [up_ix (by decide), up_same, ht]⟩, fun z => by omega, fun y z q => by rw [upI_ne (by omega), upI_ne (by omega)]; exact tf y z q, rfl⟩
    unfold F_X12_token_J373
    rw [t7, inb_in (by omega), c.2]
    rcases h3 with ⟨h3, h4⟩ | ⟨h3, h4⟩
    · rw [if_pos (by omega)]; exact fin 4 (by rw [h3]; rfl)
    · rw [if_neg (by omega)]; exact fin 5 (by rw [h3]; rfl)
  unfold F_X12_token_J52
  rw [up_same]
  show ∃ σ', (if τ.1 94 7 = τ.1 94 6 then (some (upI τ 94 8 0)) else ((F_X12_isSmall N (τ.1 94 7) τ).bind (fun q2 => if q2 = 0 then ((F_X12_isDigit N (τ.1 94 7) τ).bind (fun q12 => if q12 = 0 then (if (τ.1 94 6) ≤ (τ.1 94 7) then (F_X12_token_J373 N τ) else (inb (τ.1 94 7) 700 (if (τ.1 95 (τ.1 94 7)) = 45 then ((F_X12_isDigit N (ja (τ.1 94 7) 1) τ).bind (fun q19 => if q19 = 0 then (F_X12_token_J373 N τ) else (F_X12_token_J240 N τ))) else (F_X12_token_J373 N τ)))) else (F_X12_token_J240 N τ))) else (loopK (fun q nx90 => F_X12_token_B90 N nx90 q) N τ)))) = some σ' ∧ _
  rw [t7, t6]
  rcases T with ⟨T1, T2, T3⟩ | ⟨T1, T2, T3, T4⟩ | ⟨T1, T2, T3, T4, T5, T6⟩ | ⟨T1, T2, T3, T4⟩ | ⟨T1, T2, T3, T4, T5, T6, T7, T8⟩ | ⟨T1, T2, T3, T4, T5, T6, T7⟩
  · subst T1; subst T2; subst T3
    rw [if_pos rfl]
    exact ⟨_, rfl, ⟨by rw [up_ix (by decide)]; exact t7, by rw [up_ix (by decide)]; exact t10, up_same⟩, fun z => by omega, fun y z q => by rw [upI_ne (by omega)]; exact tf y z q, rfl⟩
  · have he := T3.2.1
    have hse : s < e := by
      rcases T3.2.2.2 with z | z
      · omega
      · rcases Nat.lt_or_ge s e with y | y
        · exact y
        · have : e = s := by have := T3.1; omega
          rw [this, T2] at z; cases z
    rw [if_neg (by omega), m_isSmall Bt, Option.bind_some, if_pos (show s < n ∧ cLe (C s) = true from ⟨T1, T2⟩), if_neg (by decide)]
    have lp2 : loopK (fun q nx90 => F_X12_token_B90 N nx90 q) N τ = F_X12_token_J114 N (upI τ 94 7 (e : Int)) := by
      rw [← up7e t7]
      refine loopK_for (b := fun q nx90 => F_X12_token_B90 N nx90 q) (s := fun k => upI τ 94 7 ((s + k : Nat) : Int)) (e - s) (bigN hN) (fun k hk nx => ?_) (fun nx => ?_)
      · have Bk : BM (upI τ 94 7 ((s + k : Nat) : Int)) n C := Bt.up (by decide)
        show F_X12_token_B90 N nx (upI τ 94 7 ((s + k : Nat) : Int)) = nx (upI τ 94 7 ((s + (k + 1) : Nat) : Int))
        unfold F_X12_token_B90
        rw [up_same, m_isSmall Bk, Option.bind_some, if_pos (show s + k < n ∧ cLe (C (s + k)) = true from ⟨by omega, T3.2.2.1 (s + k) (by omega) (by omega)⟩), if_neg (by decide), up77, ja_1 (by omega) (by omega), show ((s + k : Nat) : Int) + 1 = ((s + (k + 1) : Nat) : Int) by omega]
      · have Bk : BM (upI τ 94 7 ((s + (e - s) : Nat) : Int)) n C := Bt.up (by decide)
        show F_X12_token_B90 N nx (upI τ 94 7 ((s + (e - s) : Nat) : Int)) = _
        unfold F_X12_token_B90
        rw [up_same, m_isSmall Bk, Option.bind_some, show s + (e - s) = e by omega, if_neg (show ¬ (e < n ∧ cLe (C e) = true) from fun z => by
          rcases T3.2.2.2 with y | y
          · omega
          · rw [y] at z; exact absurd z.2 (by decide)), if_pos rfl, up7e t7]
    rw [lp2]
    let ρ : Sto := upI τ 94 7 (e : Int)
    have r7 : ρ.1 94 7 = e := up_same
    have r10 : ρ.1 94 10 = s := by show (upI τ 94 7 (e : Int)).1 94 10 = _; rw [up_ix (by decide)]; exact t10
    have Br : BM ρ n C := Bt.up (by decide)
    have rf : ∀ y z, ¬ (y = 94 ∧ 7 ≤ z ∧ z ≤ 10) → ρ.1 y z = σ.1 y z := fun y z q => by show (upI τ 94 7 (e : Int)).1 y z = _; rw [upI_ne (by omega)]; exact tf y z q
    obtain ⟨r, r1, r2⟩ := m_wordAt hN Br T3 hse
    show ∃ σ', F_X12_token_J114 N ρ = some σ' ∧ _
    unfold F_X12_token_J114
    rw [r10, r7, r1, Option.bind_some, up_same]
    have u7 : (upI ρ 94 9 r).1 94 7 = e := by rw [up_ix (by decide)]; exact r7
    have u10 : (upI ρ 94 9 r).1 94 10 = s := by rw [up_ix (by decide)]; exact r10
    have Bu : BM (upI ρ 94 9 r) n C := Br.up (by decide)
    have fin : ∀ t1 : Int, t1 ≠ 2 → t1 = kM k → (1 ≤ k ∧ k ≤ 4 → r = w) → ∃ σ', F_X12_token_J161 N t1 (upI ρ 94 9 r) = some σ' ∧ (σ'.1 94 7 = e ∧ σ'.1 94 10 = s ∧ σ'.1 94 8 = kM k) ∧ (1 ≤ k ∧ k ≤ 4 → σ'.1 94 9 = w) ∧ (∀ y z, ¬ (y = 94 ∧ 7 ≤ z ∧ z ≤ 10) → σ'.1 y z = σ.1 y z) ∧ σ'.2 = σ.2 := fun t1 h2 ht hw => by
      unfold F_X12_token_J161
      rw [up_same, if_neg h2]
      exact ⟨_, rfl, ⟨by rw [up_ix (by decide)]; exact u7, by rw [up_ix (by decide)]; exact u10, by rw [up_same, ht]⟩, fun z => by rw [up_ix (by decide), up_same]; exact hw z, fun y z q => by rw [upI_ne (by omega), upI_ne (by omega)]; exact rf y z q, rfl⟩
    rcases r2 with ⟨i, i1, i2, i3⟩ | ⟨i2, i3⟩
    · have ml : e - s ≤ 6 := by have := (wd_bd i i1).1.2.1; have := i3.1; omega
      have me := (mat_iff T3 hse ml i1).mp i3
      rw [if_neg (by omega)]
      rcases T4 with ⟨q1, q2⟩ | ⟨q1, j, q2, q3, q4, q5, q6⟩ | ⟨q1, q2, q3, q4, q5⟩
      · omega
      · exact fin 1 (by decide) (by rw [q4]; rfl) (fun _ => by rw [i2, q6, lwd_inj i i1 j q2 (me.symm.trans q3)])
      · exact absurd me (q2 i i1)
    · rw [if_pos (by omega), u7, u10, js_eq ⟨by omega, by omega⟩]
      rcases T4 with ⟨q1, q2⟩ | ⟨q1, j, q2, q3, q4, q5, q6⟩ | ⟨q1, q2, q3, q4, q5⟩
      · rw [if_neg (by omega)]
        exact fin 5 (by decide) (by rw [q2]; rfl) (fun z => by omega)
      · exact absurd ((mat_iff T3 hse q1 q2).mpr q3) (i3 j q2)
      · rw [if_pos (by omega)]
        unfold F_X12_token_J161
        have v7 : (upI (upI ρ 94 9 r) 94 8 2).1 94 7 = e := by rw [up_ix (by decide)]; exact u7
        have v10 : (upI (upI ρ 94 9 r) 94 8 2).1 94 10 = s := by rw [up_ix (by decide)]; exact u10
        rw [up_same, if_pos rfl, v7, v10, m_packed hN (Bu.up (by decide)) T3 q1, Option.bind_some]
        exact ⟨_, rfl, ⟨by rw [up_ix (by decide)]; exact v7, by rw [up_ix (by decide)]; exact v10, by rw [up_ix (by decide), up_same, q3]; rfl⟩, fun _ => by rw [up_same, q5, q4], fun y z q => by rw [upI_ne (by omega), upI_ne (by omega), upI_ne (by omega)]; exact rf y z q, rfl⟩
  · have d := of_decide_eq_true T2
    have c := Bt.2.2.1 s T1
    rw [if_neg (by omega), m_isSmall Bt, Option.bind_some, if_neg (show ¬ (s < n ∧ cLe (C s) = true) from fun z => by have := of_decide_eq_true z.2; omega), if_pos rfl, m_isDigit Bt, Option.bind_some, if_pos (show s < n ∧ cDi (C s) = true from ⟨T1, T2⟩), if_neg (by decide)]
    unfold F_X12_token_J240 F_X12_token_J261
    rw [t7, inb_in (by omega), c.2, if_neg (by omega), up_same, if_neg (by decide)]
    obtain ⟨ρ, a1, a2, a3, a4, a5⟩ := m_digits (N := N) (σ := upI τ 94 8 3) hN (Bt.up (by decide)) T3 (by rw [up_ix (by decide)]; exact t7)
    rw [a1]
    unfold F_X12_token_J352
    have r8 : ρ.1 94 8 = 3 := by rw [a4 _ _ (by omega), up_same]
    rw [r8, if_neg (by decide)]
    exact ⟨ρ, rfl, ⟨a2, by rw [a4 _ _ (by omega), up_ix (by decide)]; exact t10, by rw [r8, T4]; rfl⟩, fun _ => by rw [a3, T6], fun y z q => by rw [a4 y z (by omega), upI_ne (by omega)]; exact tf y z q, a5⟩
  · have c := Bt.2.2.1 s T1
    obtain ⟨σ', f1, f2⟩ := sgn1 T1 T3 (Or.inl ⟨T4, T2⟩)
    refine ⟨σ', ?_, f2⟩
    rw [if_neg (by omega), m_isSmall Bt, Option.bind_some, if_neg (show ¬ (s < n ∧ cLe (C s) = true) from fun z => by have := of_decide_eq_true z.2; omega), if_pos rfl, m_isDigit Bt, Option.bind_some, if_neg (show ¬ (s < n ∧ cDi (C s) = true) from fun z => by have := of_decide_eq_true z.2; omega), if_pos rfl, if_neg (by omega), inb_in (by omega), c.2, if_neg (by omega)]
    exact f1
  · have c := Bt.2.2.1 s T1
    rw [if_neg (by omega), m_isSmall Bt, Option.bind_some, if_neg (show ¬ (s < n ∧ cLe (C s) = true) from fun z => by have := of_decide_eq_true z.2; omega), if_pos rfl, m_isDigit Bt, Option.bind_some, if_neg (show ¬ (s < n ∧ cDi (C s) = true) from fun z => by have := of_decide_eq_true z.2; omega), if_pos rfl, if_neg (by omega), inb_in (by omega), c.2, if_pos (by omega), ja_1 (by omega) (by omega), show (s : Int) + 1 = ((s + 1 : Nat) : Int) by omega, m_isDigit Bt, Option.bind_some, if_pos (show s + 1 < n ∧ cDi (C (s + 1)) = true from ⟨T3, T4⟩), if_neg (by decide)]
    unfold F_X12_token_J240 F_X12_token_J261
    have u7 : (upI τ 94 8 6).1 94 7 = s := by rw [up_ix (by decide)]; exact t7
    rw [t7, inb_in (by omega), c.2, if_pos (by omega), up_same, if_pos rfl, u7, ja_1 (by omega) (by omega)]
    obtain ⟨ρ, a1, a2, a3, a4, a5⟩ := m_digits (N := N) (σ := upI (upI τ 94 8 6) 94 7 ((s : Int) + 1)) hN ((Bt.up (by decide)).up (by decide)) T5 (by rw [up_same]; omega)
    rw [a1]
    unfold F_X12_token_J352
    have r8 : ρ.1 94 8 = 6 := by rw [a4 _ _ (by omega), up_ix (by decide), up_same]
    have dg : ∀ i, i < e - (s + 1) → 48 ≤ C (s + 1 + i) ∧ C (s + 1 + i) ≤ 57 := fun i hi => of_decide_eq_true (T5.2.2.1 (s + 1 + i) (by omega) (by omega))
    have nb := nm_rel (C := C) (s := s + 1) (k := e - (s + 1)) dg
    rw [r8, if_pos rfl, a3, jneg_eq ⟨by omega, by omega⟩]
    exact ⟨_, rfl, ⟨by rw [up_ix (by decide)]; exact a2, by rw [up_ix (by decide), a4 _ _ (by omega), up_ix (by decide), up_ix (by decide)]; exact t10, by rw [up_ix (by decide), r8, T6]; rfl⟩, fun _ => by rw [up_same, T8], fun y z q => by rw [upI_ne (by omega), a4 y z (by omega), upI_ne (by omega), upI_ne (by omega)]; exact tf y z q, a5⟩
  · have c := Bt.2.2.1 s T1
    obtain ⟨σ', f1, f2⟩ := sgn1 T1 T6 (Or.inr ⟨T7, T4⟩)
    refine ⟨σ', ?_, f2⟩
    rw [if_neg (by omega), m_isSmall Bt, Option.bind_some, if_neg (show ¬ (s < n ∧ cLe (C s) = true) from fun z => by rw [T2] at z; exact absurd z.2 (by decide)), if_pos rfl, m_isDigit Bt, Option.bind_some, if_neg (show ¬ (s < n ∧ cDi (C s) = true) from fun z => by rw [T3] at z; exact absurd z.2 (by decide)), if_pos rfl, if_neg (by omega), inb_in (by omega), c.2]
    by_cases q : C s = 45
    · rw [if_pos (by omega), ja_1 (by omega) (by omega), show (s : Int) + 1 = ((s + 1 : Nat) : Int) by omega, m_isDigit Bt, Option.bind_some, if_neg (show ¬ (s + 1 < n ∧ cDi (C (s + 1)) = true) from fun z => T5 ⟨q, z⟩), if_pos rfl]
      exact f1
    · rw [if_neg (by omega)]
      exact f1
end MT2
