section SHR2
variable {N : Nat} {D : Dk}
theorem uf_same {σ : Sto} {k : Nat} {j v : Int} : (upF σ k j v).2 k j = v := if_pos ⟨rfl, rfl⟩
theorem uf_ix {σ : Sto} {k a : Nat} {j v b : Int} (h : b ≠ j) : (upF σ k j v).2 a b = σ.2 a b := if_neg (fun z => h z.2)
theorem k_loadParts (hN : BigN N) {P : Int → Int → Int} (hP : ∀ c j, 0 ≤ P c j ∧ P c j ≤ 100) {m : Nat} (hm8 : m ≤ 8) {σ : Sto} (hm : σ.1 46 5 = m) (hp : ∀ c b : Int, 0 ≤ c → c < b → b < m → σ.1 47 (8 * c + b) = P c b) {a : Int} (a0 : 0 ≤ a) (a1 : a < m) : ∃ σ', F_X10_loadParts N a σ = some σ' ∧ σ'.1 = σ.1 ∧ (∀ j : Int, j < 8 * a + a ∨ 8 * a + 8 ≤ j → σ'.2 49 j = σ.2 49 j) ∧ ∀ b : Int, a ≤ b → b < m → fb (σ'.2 49 (8 * a + b)) = shr P a b := by
  have ia : jm a 8 = 8 * a := by rw [jm_eq ⟨by omega, by omega⟩]; omega
  have iaa : ja (8 * a) a = 8 * a + a := ja_eq ⟨by omega, by omega⟩
  unfold F_X10_loadParts
  rw [ia, iaa, inb_in (by omega), ja_1 (by omega) (by omega)]
  refine Exists.elim (loop_A (b := fun q nx => F_X10_loadParts_B18 N nx a (8 * a) q.1 q.2) (fin := fun s => some s.2) (N := N) (s0 := (a + 1, upF σ 49 (8 * a + a) (FP.fconst1.toNat : Int))) (fun i s => s.1 = a + 1 + i ∧ s.2.1 = σ.1 ∧ (∀ j : Int, j < 8 * a + a ∨ 8 * a + 8 ≤ j → s.2.2 49 j = σ.2 49 j) ∧ ∀ b : Int, a ≤ b → b < a + 1 + i → fb (s.2.2 49 (8 * a + b)) = shr P a b) (m - (a.toNat + 1)) (bigN hN) ⟨by show a + 1 = a + 1 + ((0 : Nat) : Int); omega, rfl, fun j h => ?_, fun b x y => ?_⟩ (fun i s hi hI => ?_) (fun s hI nx => ?_)) (fun s hs => ?_)
  rotate_right
  · obtain ⟨⟨j1, j2, j3, j4⟩, hx⟩ := hs
    exact ⟨s.2, hx, j2, j3, fun b x y => j4 b x (by omega)⟩
  · show (upF σ 49 _ _).2 49 j = _
    rw [uf_ix (by omega)]
  · have e : b = a := by omega
    subst e
    show fb ((upF σ 49 _ _).2 49 _) = _
    rw [uf_same, fb_t, shr_self]
  · obtain ⟨b, τ⟩ := s
    obtain ⟨rfl, i2, i3, i4⟩ := hI
    refine Exists.elim (loop_X (b := fun x q nx => F_X10_loadParts_B32 N x nx a (8 * a) (a + 1 + i) q.1 q.2 τ) (fin := fun x s => x (a + 1 + i + 1, upF τ 49 (8 * a + (a + 1 + i)) (s.1.toNat : Int))) (N := N) (s0 := (FP.fconst0, a)) (fun k s => s.1 = fsum (fun c => FP.fmul (shr P a c) (ffr (P c (a + 1 + i)))) a k ∧ s.2 = a + k) (i + 1) (bigN hN) ⟨rfl, by show a = a + ((0 : Nat) : Int); omega⟩ (fun k s hk hI => ?_) (fun s hI x nx => ?_)) (fun s hs => ?_)
    rotate_right
    · obtain ⟨⟨l1, l2⟩, hx⟩ := hs
      refine ⟨(a + 1 + i + 1, upF τ 49 (8 * a + (a + 1 + i)) (s.1.toNat : Int)), ⟨by show a + 1 + i + 1 = _; omega, i2, fun j h => ?_, fun b x y => ?_⟩, fun nx => ?_⟩
      · show (upF τ 49 _ _).2 49 j = _
        rw [uf_ix (by omega)]
        exact i3 j h
      · show fb ((upF τ 49 _ _).2 49 _) = _
        by_cases e : b = a + 1 + i
        · subst e
          rw [uf_same, fb_t, shr_step (by omega), show (a + 1 + (i : Int) - a).toNat = i + 1 by omega]
          exact l1
        · rw [uf_ix (by omega)]
          exact i4 b x (by omega)
      · show F_X10_loadParts_B18 N nx a (8 * a) (a + 1 + i) τ = _
        unfold F_X10_loadParts_B18
        rw [i2, hm, if_neg (by omega)]
        exact hx nx
    · obtain ⟨u, c⟩ := s
      obtain ⟨rfl, rfl⟩ := hI
      have e1 : ja (8 * a) (a + (k : Int)) = 8 * a + (a + k) := ja_eq ⟨by omega, by omega⟩
      have e2 : ja (jm (a + (k : Int)) 8) (a + 1 + i) = 8 * (a + k) + (a + 1 + i) := ix8 (by omega) (by omega) (by omega) (by omega)
      have e3 : τ.1 47 (8 * (a + k) + (a + 1 + i)) = P (a + k) (a + 1 + i) := by rw [i2]; exact hp _ _ (by omega) (by omega) (by omega)
      have e4 := i4 (a + k) (by omega) (by omega)
      refine ⟨(fsum (fun c => FP.fmul (shr P a c) (ffr (P c (a + 1 + i)))) a (k + 1), a + k + 1), ⟨rfl, by show a + (k : Int) + 1 = _; omega⟩, fun x nx => ?_⟩
      show F_X10_loadParts_B32 N x nx a (8 * a) (a + 1 + i) _ (a + k) τ = _
      unfold F_X10_loadParts_B32
      rw [if_neg (by omega), e1, inb_in (by omega), e2, inb_in (by omega), e3, e4, grd_in (fs_ffr (hP _ _).1 (hP _ _).2), grd_in (fs_mul hP (by omega) (by omega) (hP _ _).1 (hP _ _).2), grd_in (fs_add hP (by omega)), ja_1 (by omega) (by omega)]
      rfl
    · obtain ⟨u, c⟩ := s
      obtain ⟨rfl, rfl⟩ := hI
      have e1 : ja (8 * a) (a + 1 + i) = 8 * a + (a + 1 + i) := ja_eq ⟨by omega, by omega⟩
      show F_X10_loadParts_B32 N x nx a (8 * a) (a + 1 + i) _ (a + ((i + 1 : Nat) : Int)) τ = _
      unfold F_X10_loadParts_B32 F_X10_loadParts_J75
      rw [if_pos (by omega), e1, inb_in (by omega), ja_1 (by omega) (by omega)]
  · obtain ⟨b, τ⟩ := s
    obtain ⟨rfl, i2, -⟩ := hI
    show F_X10_loadParts_B18 N nx a (8 * a) _ τ = _
    unfold F_X10_loadParts_B18
    rw [i2, hm, if_pos (by omega)]
theorem k_load (hN : BigN N) (V : Val D) {σ : Sto} {b : Nat} (hb : b ≤ 32) (day : Int) (B : BokR σ b D) (Z : LowZ σ) : ∃ σ', F_X10_load N b day σ = some σ' ∧ ShrR σ' D day ∧ LowZ σ' := by
  have v := V.sz
  unfold F_X10_load
  rw [B.1.1]
  obtain ⟨σ1, h1, h2, h3⟩ := k_loadPercents hN V (σ := upI σ 46 5 (dm D)) (t := b + 8) (by omega) day (B.2.2.2.cg (fun a j x y => up_pl (by omega))) up_same
  have f1 := fr_X10_loadPercents (res := σ1) h1
  have g1 : ∀ p j, p < 47 ∨ 50 ≤ p → σ1.1 p j = (upI σ 46 5 (dm D)).1 p j := fun p j h => f1.1 p j (fun z => by unfold Wr_X10_loadPercents at z; omega)
  have g2 : σ1.2 49 = σ.2 49 := funext fun j => f1.2 49 j (fun z => by unfold Wr_X10_loadPercents at z; omega)
  have m1 : σ1.1 46 5 = dm D := (g1 46 5 (by omega)).trans up_same
  rw [h1]
  show ∃ σ', loopK (fun q nx19 => F_X10_load_B19 N nx19 q.1 q.2) N (0, σ1) = some σ' ∧ _
  refine Exists.elim (loop_A (b := fun q nx => F_X10_load_B19 N nx q.1 q.2) (fin := fun s => some s.2) (N := N) (s0 := ((0 : Int), σ1)) (fun i s => s.1 = i ∧ s.2.1 = σ1.1 ∧ (∀ a c : Int, 0 ≤ a → a < i → a ≤ c → c < dm D → fb (s.2.2 49 (8 * a + c)) = shr (pct D day) a c) ∧ ∀ a c : Int, 0 ≤ c → c < a → a < 8 → s.2.2 49 (8 * a + c) = σ1.2 49 (8 * a + c)) (dm D) (bigN hN) ⟨rfl, rfl, fun a c x y => by omega, fun _ _ _ _ _ => rfl⟩ (fun i s hi hI => ?_) (fun s hI nx => ?_)) (fun s hs => ?_)
  rotate_right
  · obtain ⟨⟨j1, j2, j3, j4⟩, hx⟩ := hs
    refine ⟨s.2, hx, ⟨by rw [j2]; exact m1, fun a c x y z w q => ?_, fun a c x y z w => ?_⟩, fun a c x y z => ?_⟩
    · rw [j2]
      rcases Int.lt_or_gt_of_ne q with q | q
      · exact h2 a c x q w
      · rw [h3 a c z q (by omega), up_pl (by decide), (Z a c z q (by omega)).1, pct_low V day (by omega)]
    · rcases Int.lt_or_le c a with q | q
      · rw [j4 a c z q (by omega), g2, (Z a c z q (by omega)).2]
        unfold shr; rw [if_pos q]; rfl
      · exact j3 a c x (by omega) q w
    · rw [j2, j4 a c x y z, g2, h3 a c x y z, up_pl (by decide)]
      exact Z a c x y z
  · obtain ⟨a, τ⟩ := s
    obtain ⟨rfl, i2, i3, i4⟩ := hI
    obtain ⟨τ', q1, q2, q3, q4⟩ := k_loadParts hN (pct_bd V day) (m := dm D) v.1 (σ := τ) (by rw [i2]; exact m1) (fun c e x y z => by rw [i2]; exact h2 c e x y z) (a := i) (by omega) (by omega)
    refine ⟨((i : Int) + 1, τ'), ⟨by show (i : Int) + 1 = _; omega, q2.trans i2, fun a c x y z w => ?_, fun a c x y z => ?_⟩, fun nx => ?_⟩
    · by_cases e : a = i
      · subst e; exact q4 c z w
      · show fb (τ'.2 49 _) = _
        rw [q3 (8 * a + c) (by omega)]
        exact i3 a c x (by omega) z w
    · show τ'.2 49 _ = _
      rw [q3 (8 * a + c) (by omega)]
      exact i4 a c x y z
    · show F_X10_load_B19 N nx (i : Int) τ = _
      unfold F_X10_load_B19
      rw [i2, m1, if_neg (by omega), q1, ja_1 (by omega) (by omega)]; rfl
  · obtain ⟨a, τ⟩ := s
    obtain ⟨rfl, i2, -⟩ := hI
    show F_X10_load_B19 N nx (dm D : Int) τ = _
    unfold F_X10_load_B19
    rw [i2, m1, if_pos (Int.le_refl _)]
/-- who CONTROLS whom, as bits -/
def RulR (σ : Sto) (P : Int → Int → Int) (g : Int) (m : Nat) : Prop := ∀ a : Int, 0 ≤ a → a < m → inR (σ.1 50 a) ∧ ∀ i : Nat, i < 32 → tb (σ.1 50 a) i = (decide (i < m) && ctlB P g a i)
theorem k_judge (hN : BigN N) (V : Val D) {σ : Sto} {day : Int} (S : ShrR σ D day) (g : Int) : ∃ σ', F_X10_judge N g σ = some σ' ∧ σ'.2 = σ.2 ∧ (∀ p j, p ≠ 50 → σ'.1 p j = σ.1 p j) ∧ RulR σ' (pct D day) g (dm D) := by
  have v := V.sz
  unfold F_X10_judge
  refine Exists.elim (loop_A (b := fun q nx => F_X10_judge_B2 N nx g q.1 q.2) (fin := fun s => some s.2) (N := N) (s0 := ((0 : Int), σ)) (fun i s => s.1 = i ∧ s.2.2 = σ.2 ∧ (∀ p j, p ≠ 50 → s.2.1 p j = σ.1 p j) ∧ ∀ a : Int, 0 ≤ a → a < i → inR (s.2.1 50 a) ∧ ∀ k : Nat, k < 32 → tb (s.2.1 50 a) k = (decide (k < dm D) && ctlB (pct D day) g a k)) (dm D) (bigN hN) ⟨rfl, rfl, fun _ _ _ => rfl, fun a x y => by omega⟩ (fun i s hi hI => ?_) (fun s hI nx => ?_)) (fun s hs => ?_)
  rotate_right
  · obtain ⟨⟨j1, j2, j3, j4⟩, hx⟩ := hs
    exact ⟨s.2, hx, j2, j3, fun a x y => j4 a x (by omega)⟩
  · obtain ⟨a, τ⟩ := s
    obtain ⟨rfl, i2, i3, i4⟩ := hI
    refine Exists.elim (loop_X (b := fun x q nx => F_X10_judge_B21 N x nx g (i : Int) q.1 q.2) (fin := fun x s => x ((i : Int) + 1, s.2)) (N := N) (s0 := ((i : Int) + 1, upI τ 50 i 0)) (fun k s => s.1 = (i : Int) + 1 + k ∧ s.2.2 = σ.2 ∧ (∀ (p : Nat) (j : Int), ¬ (p = 50 ∧ j = (i : Int)) → s.2.1 p j = τ.1 p j) ∧ inR (s.2.1 50 i) ∧ ∀ z : Nat, z < 32 → tb (s.2.1 50 i) z = (decide (z < i + 1 + k) && ctlB (pct D day) g i z)) (dm D - (i + 1)) (bigN hN) ⟨by show (i : Int) + 1 = (i : Int) + 1 + ((0 : Nat) : Int); omega, i2, fun p j h => upI_ne h, by rw [up_same]; exact ⟨by decide, by decide⟩, fun z hz => ?_⟩ (fun k s hk hI => ?_) (fun s hI x nx => ?_)) (fun s hs => ?_)
    rotate_right
    · obtain ⟨⟨l1, l2, l3, l4, l5⟩, hx⟩ := hs
      refine ⟨((i : Int) + 1, s.2), ⟨by show (i : Int) + 1 = _; omega, l2, fun p j h => (l3 p j (by omega)).trans (i3 p j h), fun a x y => ?_⟩, fun nx => ?_⟩
      · by_cases e : a = i
        · subst e
          exact ⟨l4, fun z hz => by rw [l5 z hz, show i + 1 + (dm D - (i + 1)) = dm D by omega]⟩
        · rw [show s.2.1 50 a = τ.1 50 a from l3 50 a (by omega)]
          exact i4 a x (by omega)
      · show F_X10_judge_B2 N nx g (i : Int) τ = _
        unfold F_X10_judge_B2
        rw [i3 46 5 (by decide), S.1, if_neg (by omega), inb_in (by omega), ja_1 (by omega) (by omega)]
        exact hx nx
    · show tb ((upI τ 50 i 0).1 50 i) z = _
      rw [up_same, tb_0]
      by_cases e : z < i + 1
      · have : ctlB (pct D day) g i z = false := by
          unfold ctlB
          rw [decide_eq_false (by omega), Bool.false_and]
        rw [this, Bool.and_false]
      · rw [decide_eq_false (by omega), Bool.false_and]
    · obtain ⟨c, τ'⟩ := s
      obtain ⟨rfl, l2, l3, l4, l5⟩ := hI
      have ix : ja (jm (i : Int) 8) ((i : Int) + 1 + k) = 8 * i + ((i : Int) + 1 + k) := ix8 (by omega) (by omega) (by omega) (by omega)
      have e1 : fb (τ'.2 49 (8 * i + ((i : Int) + 1 + k))) = shr (pct D day) i ((i : Int) + 1 + k) := by rw [l2]; exact S.2.2 _ _ (by omega) (by omega) (by omega) (by omega)
      have e0 : τ'.1 46 5 = dm D := ((l3 46 5 (by omega)).trans (i3 46 5 (by decide))).trans S.1
      have e2 : ((i : Int) + 1 + k) = ((i + 1 + k : Nat) : Int) := by omega
      by_cases q : jfcmp (FP.fmul (shr (pct D day) i ((i : Int) + 1 + k)) 1120403456) (ji2f g) .l < 0
      · refine ⟨((i : Int) + 1 + k + 1, τ'), ⟨by show (i : Int) + 1 + k + 1 = _; omega, l2, l3, l4, fun z hz => ?_⟩, fun x nx => ?_⟩
        · show tb (τ'.1 50 i) z = _
          rw [l5 z hz]
          by_cases e : z = i + 1 + k
          · subst e
            rw [decide_eq_false (by omega), Bool.false_and]
            have : ctlB (pct D day) g i ((i + 1 + k : Nat) : Int) = false := by
              unfold ctlB
              rw [← e2, decide_eq_true q, Bool.not_true, Bool.and_false]
            rw [this, Bool.and_false]
          · by_cases e' : z < i + 1 + k
            · rw [decide_eq_true e', decide_eq_true (by omega)]
            · rw [decide_eq_false e', decide_eq_false (by omega)]
        · show F_X10_judge_B21 N x nx g (i : Int) ((i : Int) + 1 + k) τ' = _
          unfold F_X10_judge_B21 F_X10_judge_J61
          rw [e0, if_neg (by omega), ix, inb_in (by omega), e1, grd_in (fs_100 (pct_bd V day) (by omega) (by omega)), if_pos q, ja_1 (by omega) (by omega)]
      · refine ⟨((i : Int) + 1 + k + 1, upI τ' 50 i (jor (τ'.1 50 i) (jshl 1 ((i : Int) + 1 + k)))), ⟨by show (i : Int) + 1 + k + 1 = _; omega, l2, fun p j h => ?_, ?_, fun z hz => ?_⟩, fun x nx => ?_⟩
        · show (upI τ' _ _ _).1 p j = _
          rw [upI_ne (by omega)]
          exact l3 p j h
        · show inR ((upI τ' _ _ _).1 50 i)
          rw [up_same]; exact jor_R _ _
        · show tb ((upI τ' _ _ _).1 50 i) z = _
          rw [up_same, tb_or, l5 z hz, e2, tb_sh1 (by omega) hz]
          by_cases e : z = i + 1 + k
          · subst e
            rw [decide_eq_false (by omega), Bool.false_and, Bool.false_or, decide_eq_true rfl, decide_eq_true (by omega), Bool.true_and]
            have : ctlB (pct D day) g i ((i + 1 + k : Nat) : Int) = true := by
              unfold ctlB
              rw [← e2, decide_eq_false q, decide_eq_true (by omega)]; rfl
            rw [this]
          · rw [decide_eq_false e, Bool.or_false]
            by_cases e' : z < i + 1 + k
            · rw [decide_eq_true e', decide_eq_true (by omega)]
            · rw [decide_eq_false e', decide_eq_false (by omega)]
        · show F_X10_judge_B21 N x nx g (i : Int) ((i : Int) + 1 + k) τ' = _
          unfold F_X10_judge_B21 F_X10_judge_J61
          rw [e0, if_neg (by omega), ix, inb_in (by omega), e1, grd_in (fs_100 (pct_bd V day) (by omega) (by omega)), if_neg q, inb_in (by omega), ja_1 (by omega) (by omega)]
    · obtain ⟨c, τ'⟩ := s
      obtain ⟨rfl, l2, l3, -⟩ := hI
      have e0 : τ'.1 46 5 = dm D := ((l3 46 5 (by omega)).trans (i3 46 5 (by decide))).trans S.1
      show F_X10_judge_B21 N x nx g (i : Int) _ τ' = _
      unfold F_X10_judge_B21 F_X10_judge_J67
      rw [e0, if_pos (by omega), ja_1 (by omega) (by omega)]
  · obtain ⟨a, τ⟩ := s
    obtain ⟨rfl, i2, i3, -⟩ := hI
    show F_X10_judge_B2 N nx g (dm D : Int) τ = _
    unfold F_X10_judge_B2
    rw [i3 46 5 (by decide), S.1, if_pos (Int.le_refl _)]
theorem k_relatives (hN : BigN N) {P : Int → Int → Int} {g : Int} {m : Nat} (hm : m ≤ 8) {σ : Sto} (R : RulR σ P g m) {a : Nat} (ha : a < m) : F_X10_relativesOf N a σ = some (rlb P g m a) := by
  unfold F_X10_relativesOf
  rw [inb_in (by omega)]
  refine Exists.elim (loop_A (b := fun q nx => F_X10_relativesOf_B9 N nx a q.1 q.2 σ) (fin := fun s => some (jand s.1 (jxor (jshl 1 (a : Int)) (-1)))) (N := N) (s0 := (σ.1 50 a, (0 : Int))) (fun i s => s.2 = i ∧ inR s.1 ∧ ∀ z : Nat, z < 32 → (tb s.1 z = true ↔ (z < m ∧ ctlB P g a z = true) ∨ ∃ c : Nat, c < i ∧ ctlB P g c a = true ∧ (z = c ∨ (z < m ∧ ctlB P g c z = true)))) a (bigN hN) ⟨rfl, (R a (by omega) (by omega)).1, fun z hz => ?_⟩ (fun i s hi hI => ?_) (fun s hI nx => ?_)) (fun s hs => ?_)
  rotate_right
  · obtain ⟨⟨j1, j2, j3⟩, hx⟩ := hs
    rw [hx]
    congr 1
    refine tb_ext (jand_R _ _) (bset_R _ _) (fun z hz => ?_)
    unfold rlb
    rw [tb_bset (by omega) hz, tb_and, tb_xor, tb_sh1 (by omega) hz, tb_m1 z hz]
    unfold relB
    by_cases e : z = a
    · subst e
      simp
    · rw [decide_eq_false e]
      by_cases q : tb s.1 z = true
      · rw [q]
        have q2 := (j3 z hz).mp q
        rcases q2 with ⟨q3, q4⟩ | ⟨c, q3, q4, q5⟩
        · simp [q3, q4, show ¬ ((a : Int) = z) by omega]
        · rcases q5 with rfl | ⟨q6, q7⟩
          · have : z < m := by omega
            simp [this, q4, show ¬ ((a : Int) = z) by omega]
          · have : anyB (fun c => ctlB P g c a && ctlB P g c z) m = true := anyB_iff.mpr ⟨c, by omega, by simp [q4, q7]⟩
            simp [q6, this, show ¬ ((a : Int) = z) by omega]
      · have q0 : tb s.1 z = false := by
          cases h : tb s.1 z
          · rfl
          · exact absurd h q
        rw [q0]
        have q2 : ¬ _ := fun h => q ((j3 z hz).mpr h)
        symm
        simp only [Bool.false_and]
        by_cases e2 : z < m
        · have c1 : ctlB P g a z = false := by
            cases h : ctlB P g a z
            · rfl
            · exact absurd (Or.inl ⟨e2, h⟩) q2
          have c2 : ctlB P g z a = false := by
            cases h : ctlB P g z a
            · rfl
            · have lt : (z : Int) < a := by
                unfold ctlB at h
                rw [Bool.and_eq_true] at h
                exact of_decide_eq_true h.1
              exact absurd (Or.inr ⟨z, by omega, h, Or.inl rfl⟩) q2
          have c3 : anyB (fun c => ctlB P g c a && ctlB P g c z) m = false := by
            cases h : anyB (fun c => ctlB P g c a && ctlB P g c z) m
            · rfl
            · obtain ⟨c, h1, h2⟩ := anyB_iff.mp h
              rw [Bool.and_eq_true] at h2
              have lt : (c : Int) < a := by
                have h3 := h2.1
                unfold ctlB at h3
                rw [Bool.and_eq_true] at h3
                exact of_decide_eq_true h3.1
              exact absurd (Or.inr ⟨c, by omega, h2.1, Or.inr ⟨e2, h2.2⟩⟩) q2
          simp [c1, c2, c3]
        · simp [e2]
  · rw [(R a (by omega) (by omega)).2 z hz, Bool.and_eq_true, decide_eq_true_iff]
    constructor
    · exact Or.inl
    · rintro (h | ⟨c, h, -⟩)
      · exact h
      · omega
  · obtain ⟨u, c⟩ := s
    obtain ⟨rfl, i2, i3⟩ := hI
    have Ri := R i (by omega) (by omega)
    have hb := Ri.2 a (by omega)
    by_cases q : ctlB P g i a = true
    · refine ⟨(jor u (jor (σ.1 50 i) (jshl 1 (i : Int))), (i : Int) + 1), ⟨by show (i : Int) + 1 = _; omega, jor_R _ _, fun z hz => ?_⟩, fun nx => ?_⟩
      · show tb (jor u (jor (σ.1 50 i) (jshl 1 (i : Int)))) z = true ↔ _
        rw [tb_or, tb_or, Bool.or_eq_true, Bool.or_eq_true, i3 z hz, Ri.2 z hz, tb_sh1 (by omega) hz, Bool.and_eq_true, decide_eq_true_iff, decide_eq_true_iff]
        constructor
        · rintro ((h | ⟨c, h1, h2, h3⟩) | (h | h))
          · exact Or.inl h
          · exact Or.inr ⟨c, by omega, h2, h3⟩
          · exact Or.inr ⟨i, by omega, q, Or.inr h⟩
          · exact Or.inr ⟨i, by omega, q, Or.inl h⟩
        · rintro (h | ⟨c, h1, h2, h3⟩)
          · exact Or.inl (Or.inl h)
          · by_cases e : c = i
            · subst e
              rcases h3 with h3 | h3
              · exact Or.inr (Or.inr h3)
              · exact Or.inr (Or.inl h3)
            · exact Or.inl (Or.inr ⟨c, by omega, h2, h3⟩)
      · show F_X10_relativesOf_B9 N nx a u i σ = _
        unfold F_X10_relativesOf_B9 F_X10_relativesOf_J41
        rw [if_neg (by omega), inb_in (by omega), if_pos ((tb_test1 (by omega)).mpr (by rw [hb, q, decide_eq_true (by omega)]; rfl)), ja_1 (by omega) (by omega)]
    · refine ⟨(u, (i : Int) + 1), ⟨by show (i : Int) + 1 = _; omega, i2, fun z hz => ?_⟩, fun nx => ?_⟩
      · show tb u z = true ↔ _
        rw [i3 z hz]
        constructor
        · rintro (h | ⟨c, h1, h2, h3⟩)
          · exact Or.inl h
          · exact Or.inr ⟨c, by omega, h2, h3⟩
        · rintro (h | ⟨c, h1, h2, h3⟩)
          · exact Or.inl h
          · by_cases e : c = i
            · subst e; exact absurd h2 q
            · exact Or.inr ⟨c, by omega, h2, h3⟩
      · show F_X10_relativesOf_B9 N nx a u i σ = _
        unfold F_X10_relativesOf_B9 F_X10_relativesOf_J41
        rw [if_neg (by omega), inb_in (by omega), if_neg (fun z => q (by
          have z := (tb_test1 (by omega)).mp z
          rw [hb, Bool.and_eq_true] at z
          exact z.2)), ja_1 (by omega) (by omega)]
  · obtain ⟨u, c⟩ := s
    obtain ⟨rfl, -⟩ := hI
    show F_X10_relativesOf_B9 N nx a u (a : Int) σ = _
    unfold F_X10_relativesOf_B9 F_X10_relativesOf_J47
    rw [if_pos (Int.le_refl _)]
end SHR2
