/-! CLOSURES: sets of numbers below n, as bits; GROUPS -/
def swp (nb : Nat → Int) (v : Int) : Nat → Int
  | 0 => v
  | k + 1 => if tb (swp nb v k) k = true then jor (swp nb v k) (nb k) else swp nb v k
def rnd (nb : Nat → Int) (n : Nat) (v : Int) : Nat → Int
  | 0 => v
  | r + 1 => swp nb (rnd nb n v r) n
def swj (nb : Nat → Int) (h v : Int) : Nat → Int
  | 0 => v
  | k + 1 => if tb h k = true then jor (swj nb h v k) (nb k) else swj nb h v k
def ClS (n : Nat) (rel : Nat → Nat → Bool) (S : Nat → Bool) : Prop := ∀ a c, a < n → c < n → S a = true → rel a c = true → S c = true
/-- the least set with S0 that is closed -/
def Lst (n : Nat) (rel : Nat → Nat → Bool) (S0 : Nat → Bool) (b : Nat) : Prop := ∀ S : Nat → Bool, (∀ a, a < n → S0 a = true → S a = true) → ClS n rel S → S b = true
def cntS (S : Nat → Bool) : Nat → Nat
  | 0 => 0
  | k + 1 => cntS S k + (if S k = true then 1 else 0)
theorem cntS_le {S : Nat → Bool} : ∀ {n : Nat}, cntS S n ≤ n := by
  intro n
  induction n with
  | zero => exact Nat.le_refl _
  | succ n ih => show cntS S n + (if S n = true then 1 else 0) ≤ n + 1; split <;> omega
theorem cntS_mono {S T : Nat → Bool} : ∀ {n : Nat}, (∀ k, k < n → S k = true → T k = true) → cntS S n ≤ cntS T n := by
  intro n
  induction n with
  | zero => intro _; exact Nat.le_refl _
  | succ n ih =>
    intro h
    have h1 := ih (fun k hk => h k (by omega))
    show cntS S n + (if S n = true then 1 else 0) ≤ cntS T n + (if T n = true then 1 else 0)
    by_cases q : S n = true
    · rw [if_pos q, if_pos (h n (by omega) q)]; omega
    · rw [if_neg q]; split <;> omega
theorem cntS_lt {S T : Nat → Bool} : ∀ {n : Nat}, (∀ k, k < n → S k = true → T k = true) → (∃ k, k < n ∧ S k = false ∧ T k = true) → cntS S n < cntS T n := by
  intro n
  induction n with
  | zero => rintro _ ⟨k, h, _⟩; omega
  | succ n ih =>
    rintro h ⟨k, h1, h2, h3⟩
    have hm := cntS_mono (n := n) (fun k hk => h k (by omega))
    show cntS S n + (if S n = true then 1 else 0) < cntS T n + (if T n = true then 1 else 0)
    by_cases e : k = n
    · subst e
      rw [h2, h3, if_pos rfl, if_neg (by decide)]; omega
    · have := ih (fun k hk => h k (by omega)) ⟨k, by omega, h2, h3⟩
      by_cases q : S n = true
      · rw [if_pos q, if_pos (h n (by omega) q)]; omega
      · rw [if_neg q]; split <;> omega
theorem cntS_pos {S : Nat → Bool} {n k : Nat} (h : k < n) (hk : S k = true) : 1 ≤ cntS S n := by
  have := cntS_lt (S := fun _ => false) (T := S) (n := n) (fun _ _ q => by cases q) ⟨k, h, rfl, hk⟩
  omega
theorem b_ne {x : Bool} (h : ¬ x = true) : x = false := by
  cases x
  · rfl
  · exact absurd rfl h
def BS (n : Nat) (v : Int) : Prop := inR v ∧ ∀ i, i < 32 → tb v i = true → i < n
def NbOk (n : Nat) (rel : Nat → Nat → Bool) (nb : Nat → Int) : Prop := ∀ k, k < n → inR (nb k) ∧ ∀ i, i < 32 → tb (nb k) i = (decide (i < n) && rel k i)
def IsCl (n : Nat) (rel : Nat → Nat → Bool) (S0 : Nat → Bool) (w : Int) : Prop := inR w ∧ ∀ i, i < 32 → (tb w i = true ↔ i < n ∧ Lst n rel S0 i)
theorem IsCl.uniq {n : Nat} {rel : Nat → Nat → Bool} {S0 : Nat → Bool} {w w' : Int} (h : IsCl n rel S0 w) (h' : IsCl n rel S0 w') : w = w' := by
  refine tb_ext h.1 h'.1 (fun i hi => ?_)
  have a := h.2 i hi
  have c := h'.2 i hi
  by_cases q : tb w i = true
  · rw [q, c.mpr (a.mp q)]
  · rw [b_ne q, b_ne (fun z => q (a.mpr (c.mp z)))]
noncomputable def clo (n : Nat) (rel : Nat → Nat → Bool) (S0 : Nat → Bool) : Int := Classical.epsilon (IsCl n rel S0)
theorem clo_eq {n : Nat} {rel : Nat → Nat → Bool} {S0 : Nat → Bool} {w : Int} (h : IsCl n rel S0 w) : clo n rel S0 = w := (Classical.epsilon_spec (p := IsCl n rel S0) ⟨w, h⟩).uniq h
section CLO
variable {n : Nat} {rel : Nat → Nat → Bool} {nb : Nat → Int}
theorem swp_ok (hn : n ≤ 32) (hb : NbOk n rel nb) {v : Int} (hv : BS n v) : ∀ k, k ≤ n → BS n (swp nb v k) ∧ (∀ i, i < 32 → tb v i = true → tb (swp nb v k) i = true) ∧ (∀ a c, a < k → c < n → tb v a = true → rel a c = true → tb (swp nb v k) c = true) ∧ ∀ S : Nat → Bool, (∀ a, a < n → tb v a = true → S a = true) → ClS n rel S → ∀ i, i < n → tb (swp nb v k) i = true → S i = true := by
  intro k
  induction k with
  | zero => intro _; exact ⟨hv, fun _ _ h => h, fun a c h => by omega, fun S h _ i hi q => h i hi q⟩
  | succ k ih =>
    intro hk
    obtain ⟨i1, i2, i3, i4⟩ := ih (by omega)
    obtain ⟨n1, n2⟩ := hb k (by omega)
    have e : swp nb v (k + 1) = if tb (swp nb v k) k = true then jor (swp nb v k) (nb k) else swp nb v k := rfl
    rw [e]
    by_cases q : tb (swp nb v k) k = true
    · rw [if_pos q]
      refine ⟨⟨jor_R _ _, fun i hi h => ?_⟩, fun i hi h => ?_, fun a c ha hc h h2 => ?_, fun S h1 h2 i hi h => ?_⟩
      · rw [tb_or, n2 i hi, Bool.or_eq_true, Bool.and_eq_true, decide_eq_true_iff] at h
        rcases h with h | h
        · exact i1.2 i hi h
        · exact h.1
      · rw [tb_or, i2 i hi h, Bool.true_or]
      · rw [tb_or]
        by_cases z : a = k
        · subst z
          rw [n2 c (by omega), h2, decide_eq_true hc, Bool.true_and, Bool.or_true]
        · rw [i3 a c (by omega) hc h h2, Bool.true_or]
      · rw [tb_or, n2 i (by omega), Bool.or_eq_true, Bool.and_eq_true] at h
        rcases h with h | h
        · exact i4 S h1 h2 i hi h
        · exact h2 k i (by omega) hi (i4 S h1 h2 k (by omega) q) h.2
    · rw [if_neg q]
      refine ⟨i1, i2, fun a c ha hc h h2 => ?_, i4⟩
      by_cases z : a = k
      · subst z
        exact absurd (i2 a (by omega) h) q
      · exact i3 a c (by omega) hc h h2
theorem rnd_ok (hn : n ≤ 32) (hb : NbOk n rel nb) {v : Int} (hv : BS n v) : ∀ r, BS n (rnd nb n v r) ∧ (∀ i, i < 32 → tb v i = true → tb (rnd nb n v r) i = true) ∧ (∀ S : Nat → Bool, (∀ a, a < n → tb v a = true → S a = true) → ClS n rel S → ∀ i, i < n → tb (rnd nb n v r) i = true → S i = true) ∧ (ClS n rel (tb (rnd nb n v r)) ∨ r + 1 ≤ cntS (tb (rnd nb n v r)) n) := by
  intro r
  induction r with
  | zero =>
    refine ⟨hv, fun _ _ h => h, fun S h _ i hi q => h i hi q, ?_⟩
    by_cases h : ∃ k, k < n ∧ tb v k = true
    · obtain ⟨k, h1, h2⟩ := h
      exact Or.inr (cntS_pos h1 h2)
    · exact Or.inl (fun a c ha _ h1 _ => absurd ⟨a, ha, h1⟩ h)
  | succ r ih =>
    obtain ⟨i1, i2, i3, i4⟩ := ih
    obtain ⟨s1, s2, s3, s4⟩ := swp_ok hn hb i1 n (Nat.le_refl _)
    show BS n (swp nb (rnd nb n v r) n) ∧ (∀ i, i < 32 → tb v i = true → tb (swp nb (rnd nb n v r) n) i = true) ∧ (∀ S : Nat → Bool, (∀ a, a < n → tb v a = true → S a = true) → ClS n rel S → ∀ i, i < n → tb (swp nb (rnd nb n v r) n) i = true → S i = true) ∧ (ClS n rel (tb (swp nb (rnd nb n v r) n)) ∨ r + 1 + 1 ≤ cntS (tb (swp nb (rnd nb n v r) n)) n)
    refine ⟨s1, fun i hi h => s2 i hi (i2 i hi h), fun S h1 h2 i hi h => s4 S (fun a ha q => i3 S h1 h2 a ha q) h2 i hi h, ?_⟩
    by_cases z : ∃ k, k < n ∧ tb (rnd nb n v r) k = false ∧ tb (swp nb (rnd nb n v r) n) k = true
    · rcases i4 with i4 | i4
      · obtain ⟨k, k1, k2, k3⟩ := z
        have := s4 (tb (rnd nb n v r)) (fun _ _ q => q) i4 k k1 k3
        rw [k2] at this; cases this
      · have := cntS_lt (n := n) (fun k hk q => s2 k (by omega) q) z
        exact Or.inr (by omega)
    · refine Or.inl (fun a c ha hc h1 h2 => ?_)
      have h1' : tb (rnd nb n v r) a = true := by
        by_cases q : tb (rnd nb n v r) a = true
        · exact q
        · exact absurd ⟨a, ha, b_ne q, h1⟩ z
      exact s3 a c ha hc h1' h2
theorem rnd_cl (hn : n ≤ 32) (hb : NbOk n rel nb) {v : Int} (hv : BS n v) : IsCl n rel (tb v) (rnd nb n v n) := by
  obtain ⟨i1, i2, i3, i4⟩ := rnd_ok hn hb hv n
  have hc : ClS n rel (tb (rnd nb n v n)) := by
    rcases i4 with i4 | i4
    · exact i4
    · have := cntS_le (S := tb (rnd nb n v n)) (n := n)
      omega
  exact ⟨i1.1, fun i hi => ⟨fun q => ⟨i1.2 i hi q, fun S h1 h2 => i3 S h1 h2 i (i1.2 i hi q) q⟩, fun q => q.2 _ (fun a ha z => i2 a (by omega) z) hc⟩⟩
theorem swj_ok (hn : n ≤ 32) (hb : NbOk n rel nb) {h v : Int} (hv : BS n v) (hh : ∀ i, i < n → tb h i = true → tb v i = true) : ∀ k, k ≤ n → BS n (swj nb h v k) ∧ (∀ i, i < 32 → tb v i = true → tb (swj nb h v k) i = true) ∧ (∀ a c, a < k → c < n → tb h a = true → rel a c = true → tb (swj nb h v k) c = true) ∧ ∀ S : Nat → Bool, (∀ a, a < n → tb v a = true → S a = true) → ClS n rel S → ∀ i, i < n → tb (swj nb h v k) i = true → S i = true := by
  intro k
  induction k with
  | zero => intro _; exact ⟨hv, fun _ _ h => h, fun a c h => by omega, fun S h _ i hi q => h i hi q⟩
  | succ k ih =>
    intro hk
    obtain ⟨i1, i2, i3, i4⟩ := ih (by omega)
    obtain ⟨n1, n2⟩ := hb k (by omega)
    have e : swj nb h v (k + 1) = if tb h k = true then jor (swj nb h v k) (nb k) else swj nb h v k := rfl
    rw [e]
    by_cases q : tb h k = true
    · rw [if_pos q]
      refine ⟨⟨jor_R _ _, fun i hi h => ?_⟩, fun i hi h => ?_, fun a c ha hc h h2 => ?_, fun S h1 h2 i hi h => ?_⟩
      · rw [tb_or, n2 i hi, Bool.or_eq_true, Bool.and_eq_true, decide_eq_true_iff] at h
        rcases h with h | h
        · exact i1.2 i hi h
        · exact h.1
      · rw [tb_or, i2 i hi h, Bool.true_or]
      · rw [tb_or]
        by_cases z : a = k
        · subst z
          rw [n2 c (by omega), h2, decide_eq_true hc, Bool.true_and, Bool.or_true]
        · rw [i3 a c (by omega) hc h h2, Bool.true_or]
      · rw [tb_or, n2 i (by omega), Bool.or_eq_true, Bool.and_eq_true] at h
        rcases h with h | h
        · exact i4 S h1 h2 i hi h
        · exact h2 k i (by omega) hi (h1 k (by omega) (hh k (by omega) q)) h.2
    · rw [if_neg q]
      refine ⟨i1, i2, fun a c ha hc h h2 => ?_, i4⟩
      by_cases z : a = k
      · subst z
        exact absurd h q
      · exact i3 a c (by omega) hc h h2
/-- a loop that goes on until nothing is new -/
theorem jac_loop {X Rt : Type} {b : X → Int × Int → (Int × Int → Option Rt) → Option Rt} {fin : X → Int → Option Rt} {N : Nat} (hN : 100 < N) (hn : n ≤ 32) (hb : NbOk n rel nb) {v : Int} (hv : BS n v) (h0 : ∃ k, k < n ∧ tb v k = true) (hs : ∀ x u h nx, u ≠ h → inR u → b x (u, h) nx = nx (swj nb u u n, u)) (he : ∀ x u nx, b x (u, u) nx = fin x u) : ∃ w, IsCl n rel (tb v) w ∧ ∀ x, loopK (b x) N (v, 0) = fin x w := by
  refine loop_E (b := b) (fin := fin) (fun k s => BS n s.1 ∧ (∀ i, i < 32 → tb v i = true → tb s.1 i = true) ∧ (∀ S : Nat → Bool, (∀ a, a < n → tb v a = true → S a = true) → ClS n rel S → ∀ i, i < n → tb s.1 i = true → S i = true) ∧ ((s.1 = s.2 ∧ ClS n rel (tb s.1)) ∨ (s.1 ≠ s.2 ∧ k + 1 ≤ cntS (tb s.1) n))) (IsCl n rel (tb v)) n (by omega) ⟨hv, fun _ _ h => h, fun S h _ i hi q => h i hi q, Or.inr ⟨?_, ?_⟩⟩ (fun k s hk hI => ?_)
  · obtain ⟨k, h1, h2⟩ := h0
    intro e
    have e : v = 0 := e
    rw [e, tb_0] at h2; cases h2
  · obtain ⟨k, h1, h2⟩ := h0
    exact cntS_pos h1 h2
  · obtain ⟨u, h⟩ := s
    obtain ⟨i1, i2, i3, i4⟩ := hI
    have i1 : BS n u := i1
    rcases i4 with ⟨e, i4⟩ | ⟨e, i4⟩
    · have e : u = h := e
      subst e
      exact Or.inr ⟨u, ⟨i1.1, fun i hi => ⟨fun q => ⟨i1.2 i hi q, fun S h1 h2 => i3 S h1 h2 i (i1.2 i hi q) q⟩, fun q => q.2 _ (fun a ha z => i2 a (by omega) z) i4⟩⟩, fun x nx => he x u nx⟩
    · have hc := cntS_le (S := tb u) (n := n)
      have i4 : k + 1 ≤ cntS (tb u) n := i4
      obtain ⟨s1, s2, s3, s4⟩ := swj_ok hn hb i1 (h := u) (fun _ _ q => q) n (Nat.le_refl _)
      refine Or.inl ⟨by omega, (swj nb u u n, u), ⟨s1, fun i hi q => s2 i hi (i2 i hi q), fun S h1 h2 i hi q => s4 S (fun a ha z => i3 S h1 h2 a ha z) h2 i hi q, ?_⟩, fun x nx => hs x u h nx e i1.1⟩
      show (swj nb u u n = u ∧ ClS n rel (tb (swj nb u u n))) ∨ (swj nb u u n ≠ u ∧ k + 1 + 1 ≤ cntS (tb (swj nb u u n)) n)
      by_cases z : ∃ k, k < n ∧ tb u k = false ∧ tb (swj nb u u n) k = true
      · have := cntS_lt (n := n) (fun k hk q => s2 k (by omega) q) z
        refine Or.inr ⟨fun q => ?_, by omega⟩
        obtain ⟨k, k1, k2, k3⟩ := z
        rw [q, k2] at k3; cases k3
      · have eq : swj nb u u n = u := tb_ext s1.1 i1.1 (fun i hi => by
          by_cases q : tb u i = true
          · rw [q, s2 i hi q]
          · rw [b_ne q]
            refine b_ne (fun y => z ⟨i, s1.2 i hi y, b_ne q, y⟩))
        refine Or.inl ⟨eq, fun a c ha hc h1 h2 => ?_⟩
        rw [eq] at h1
        exact s3 a c ha hc h1 h2
end CLO
/-! GROUPS -/
def grp (cl : Nat → Int) : Nat → Int × Int
  | 0 => (0, 0)
  | k + 1 => if tb (grp cl k).1 k = true then grp cl k else (jor (grp cl k).1 (cl k), (grp cl k).2 + 1)
theorem grp_bd {cl : Nat → Int} : ∀ k, 0 ≤ (grp cl k).2 ∧ (grp cl k).2 ≤ k := by
  intro k
  induction k with
  | zero => exact ⟨Int.le_refl _, Int.le_refl _⟩
  | succ k ih =>
    show 0 ≤ (if tb (grp cl k).1 k = true then grp cl k else (jor (grp cl k).1 (cl k), (grp cl k).2 + 1)).2 ∧ (if tb (grp cl k).1 k = true then grp cl k else (jor (grp cl k).1 (cl k), (grp cl k).2 + 1)).2 ≤ ((k + 1 : Nat) : Int)
    split
    · omega
    · show 0 ≤ (grp cl k).2 + 1 ∧ (grp cl k).2 + 1 ≤ ((k + 1 : Nat) : Int); omega
section GRP
variable {N : Nat} {σ : Sto} {b : Nat} {D : Dk}
def rlN (D : Dk) (d : Int) : Nat → Nat → Bool := fun a c => relB (pct D d) (gD D) (dm D) a c
noncomputable def rGroups (D : Dk) (d : Int) : Int := if isD d then (grp (fun m => clo (dm D) (rlN D d) (tb (jshl 1 (m : Int)))) (dm D)).2 else -1
theorem nb_ok (V : Val D) (d : Int) : NbOk (dm D) (rlN D d) (fun k => rlb (pct D d) (gD D) (dm D) k) := fun k hk => ⟨bset_R _ _, fun i hi => by
  have vz := V.sz
  unfold rlb rlN
  rw [tb_bset (by omega) hi]⟩
theorem sh1_BS {n m : Nat} (hn : n ≤ 32) (hm : m < n) : BS n (jshl 1 (m : Int)) := ⟨jshl_R _ _, fun i hi q => by
  rw [tb_sh1 (by omega) hi, decide_eq_true_iff] at q; omega⟩
theorem k_groupOf (hN : BigN N) (V : Val D) {d : Int} (R : RulR σ (pct D d) (gD D) (dm D)) (hm : σ.1 46 5 = dm D) {m : Nat} (h : m < dm D) : F_X10_groupOf N m σ = some (clo (dm D) (rlN D d) (tb (jshl 1 (m : Int)))) := by
  have vz := V.sz
  let nb : Nat → Int := fun k => rlb (pct D d) (gD D) (dm D) k
  have inner : ∀ (v : Int) (r : Nat) nx6, r < dm D → loopK (fun q nx17 => F_X10_groupOf_B17 N nx6 nx17 (r : Int) q.1 q.2 σ) N (v, 0) = nx6 (swp nb v (dm D), (r : Int) + 1) := fun v r nx6 hr => by
    refine loopK_for (b := fun q nx17 => F_X10_groupOf_B17 N nx6 nx17 (r : Int) q.1 q.2 σ) (s := fun k => (swp nb v k, (k : Int))) (dm D) (bigN hN) (fun k hk nx => ?_) (fun nx => ?_)
    · show F_X10_groupOf_B17 N nx6 nx r (swp nb v k) k σ = nx (if tb (swp nb v k) k = true then jor (swp nb v k) (nb k) else swp nb v k, ((k + 1 : Nat) : Int))
      unfold F_X10_groupOf_B17 F_X10_groupOf_J45
      have t := tb_test1 (x := swp nb v k) (k := k) (by omega)
      rw [hm, if_neg (by omega), k_relatives hN vz.1 R hk, ja_1 (by omega) (by omega)]
      by_cases q : tb (swp nb v k) k = true
      · rw [if_pos (t.mpr q), if_pos q]; rfl
      · rw [if_neg (fun z => q (t.mp z)), if_neg q]; rfl
    · show F_X10_groupOf_B17 N nx6 nx r (swp nb v (dm D)) (dm D : Int) σ = _
      unfold F_X10_groupOf_B17 F_X10_groupOf_J51
      rw [hm, if_pos (Int.le_refl _), ja_1 (by omega) (by omega)]
  have e := clo_eq (rnd_cl (by omega) (nb_ok V d) (sh1_BS (n := dm D) (by omega) h))
  rw [e]
  unfold F_X10_groupOf
  refine loopK_for (b := fun q nx6 => F_X10_groupOf_B6 N nx6 q.1 q.2 σ) (s := fun r => (rnd nb (dm D) (jshl 1 (m : Int)) r, (r : Int))) (dm D) (bigN hN) (fun r hr nx => ?_) (fun nx => ?_)
  · show F_X10_groupOf_B6 N nx (rnd nb (dm D) (jshl 1 (m : Int)) r) r σ = nx (swp nb (rnd nb (dm D) (jshl 1 (m : Int)) r) (dm D), ((r + 1 : Nat) : Int))
    unfold F_X10_groupOf_B6
    rw [hm, if_neg (by omega), inner _ r nx hr]; rfl
  · show F_X10_groupOf_B6 N nx (rnd nb (dm D) (jshl 1 (m : Int)) (dm D)) (dm D : Int) σ = _
    unfold F_X10_groupOf_B6
    rw [hm, if_pos (Int.le_refl _)]
theorem x_groups (hN : BigN N) (V : Val D) (X : XC σ b D) (d : Int) : QX σ b D (F_X11_groups N d σ) (rGroups D d) := by
  have vz := V.sz
  unfold F_X11_groups rGroups
  rw [k_isDay, Option.bind_some]
  by_cases h2 : isD d
  · rw [if_pos h2, if_neg (by decide), if_pos h2, X.at]
    obtain ⟨σ1, σ2, a1, a2, a3, a4, a5, a6, a7⟩ := k_shj hN V X d
    rw [a1, Option.bind_some, a2, asB_in X.1, a3, Option.bind_some]
    let cl : Nat → Int := fun m => clo (dm D) (rlN D d) (tb (jshl 1 (m : Int)))
    have lp : F_X10_countGroups N σ2 = some (grp cl (dm D)).2 := by
      unfold F_X10_countGroups
      refine loopK_for (b := fun q nx6 => F_X10_countGroups_B6 N nx6 q.1 q.2.1 q.2.2 σ2) (s := fun k => ((grp cl k).1, (grp cl k).2, (k : Int))) (dm D) (bigN hN) (fun k hk nx => ?_) (fun nx => ?_)
      · show F_X10_countGroups_B6 N nx (grp cl k).1 (grp cl k).2 k σ2 = nx ((if tb (grp cl k).1 k = true then grp cl k else (jor (grp cl k).1 (cl k), (grp cl k).2 + 1)).1, (if tb (grp cl k).1 k = true then grp cl k else (jor (grp cl k).1 (cl k), (grp cl k).2 + 1)).2, ((k + 1 : Nat) : Int))
        have t := tb_test0 (x := (grp cl k).1) (k := k) (by omega)
        have gb := grp_bd (cl := cl) k
        unfold F_X10_countGroups_B6 F_X10_countGroups_J33
        rw [a5, if_neg (by omega), ja_1 (k := (k : Int)) (by omega) (by omega)]
        by_cases q : tb (grp cl k).1 k = true
        · rw [if_neg (fun z => by rw [t.mp z] at q; cases q), if_pos q]; rfl
        · rw [if_pos (t.mpr (b_ne q)), if_neg q, k_groupOf hN V a4 a5 hk, Option.bind_some, ja_1 (by omega) (by omega)]; rfl
      · show F_X10_countGroups_B6 N nx (grp cl (dm D)).1 (grp cl (dm D)).2 (dm D : Int) σ2 = _
        unfold F_X10_countGroups_B6
        rw [a5, if_pos (Int.le_refl _)]
    rw [lp]
    exact ⟨σ2, rfl, a6, a7⟩
  · rw [if_neg h2, if_pos rfl, if_neg h2]
    exact QX.same X rfl
theorem m_groups (hN : BigN N) (V : Val D) (M : MK σ D) (d : Int) : QM σ D (F_X12_groups N d σ) (rGroups D d) := by
  have vz := V.sz
  obtain ⟨M', m'⟩ := M.up2 V 0
  unfold F_X12_groups rGroups
  rw [m_isDay, Option.bind_some]
  by_cases h2 : isD d
  · obtain ⟨σ1, a1, a2, a3, a4⟩ := m_sh hN V M' d
    rw [if_pos h2, if_neg (by decide), if_pos h2, a1, Option.bind_some]
    let cl : Nat → Int := fun m => clo (dm D) (rlN D d) (tb (jshl 1 (m : Int)))
    let nb : Nat → Int := fun k => rlb (pct D d) (gD D) (dm D) k
    have e11 : σ1.1 94 11 = dm D := a3.1.1.1.1
    have inner : ∀ (v2 v3 v4 h u : Int) nx26 nx60, inR u → loopK (fun q nx74 => F_X12_groups_B74 N nx26 nx60 nx74 v2 v3 v4 h q.1 q.2 σ1) N (u, 0) = nx60 (swj nb h u (dm D), h) := fun v2 v3 v4 h u nx26 nx60 hu => by
      have hr : ∀ k, inR (swj nb h u k) := fun k => by
        induction k with
        | zero => exact hu
        | succ k ih => show inR (if tb h k = true then jor (swj nb h u k) (nb k) else swj nb h u k); split; exact jor_R _ _; exact ih
      refine loopK_for (b := fun q nx74 => F_X12_groups_B74 N nx26 nx60 nx74 v2 v3 v4 h q.1 q.2 σ1) (s := fun k => (swj nb h u k, (k : Int))) (dm D) (bigN hN) (fun k hk nx => ?_) (fun nx => ?_)
      · show F_X12_groups_B74 N nx26 nx60 nx v2 v3 v4 h (swj nb h u k) k σ1 = nx (if tb h k = true then jor (swj nb h u k) (nb k) else swj nb h u k, ((k + 1 : Nat) : Int))
        unfold F_X12_groups_B74 F_X12_groups_J106
        have t := tb_test1 (x := h) (k := k) (by omega)
        rw [e11, if_neg (by omega), m_relatedTo hN V a3.1 a2 hk, ja_1 (by omega) (by omega), jor_0 (hr k)]
        by_cases q : tb h k = true
        · rw [if_pos (t.mpr q), if_pos q]; rfl
        · rw [if_neg (fun z => q (t.mp z)), if_neg q]; rfl
      · show F_X12_groups_B74 N nx26 nx60 nx v2 v3 v4 h (swj nb h u (dm D)) (dm D : Int) σ1 = _
        unfold F_X12_groups_B74 F_X12_groups_J115
        rw [e11, if_pos (Int.le_refl _)]
    have mid : ∀ (v2 v3 : Int) (m : Nat) nx26, m < dm D → loopK (fun q nx60 => F_X12_groups_B60 N nx26 nx60 v2 v3 (m : Int) q.1 q.2 σ1) N (jshl 1 (m : Int), 0) = F_X12_groups_J118 N nx26 v2 v3 m (cl m) σ1 := fun v2 v3 m nx26 hm => by
      obtain ⟨w, w1, w2⟩ := jac_loop (X := Unit) (n := dm D) (rel := rlN D d) (nb := nb) (b := fun _ q nx60 => F_X12_groups_B60 N nx26 nx60 v2 v3 (m : Int) q.1 q.2 σ1) (fin := fun _ u => F_X12_groups_J118 N nx26 v2 v3 m u σ1) (N := N) (bigN hN) (by omega) (nb_ok V d) (sh1_BS (n := dm D) (by omega) hm) ⟨m, hm, by rw [tb_sh1 (by omega) (by omega)]; exact decide_eq_true rfl⟩ (fun _ u h nx hne hu => by
        show F_X12_groups_B60 N nx26 nx v2 v3 m u h σ1 = _
        unfold F_X12_groups_B60
        rw [if_neg hne, inner v2 v3 m u u nx26 nx hu]) (fun _ u nx => by
        show F_X12_groups_B60 N nx26 nx v2 v3 m u u σ1 = _
        unfold F_X12_groups_B60
        rw [if_pos rfl])
      rw [w2 ()]
      show F_X12_groups_J118 N nx26 v2 v3 m w σ1 = F_X12_groups_J118 N nx26 v2 v3 m (clo (dm D) (rlN D d) (tb (jshl 1 (m : Int)))) σ1
      rw [clo_eq w1]
    refine ⟨σ1, ?_, a3, m'.tr a4⟩
    refine loopK_for (b := fun q nx26 => F_X12_groups_B26 N nx26 q.1 q.2.1 q.2.2 σ1) (s := fun k => ((grp cl k).1, (grp cl k).2, (k : Int))) (dm D) (bigN hN) (fun k hk nx => ?_) (fun nx => ?_)
    · show F_X12_groups_B26 N nx (grp cl k).1 (grp cl k).2 k σ1 = nx ((if tb (grp cl k).1 k = true then grp cl k else (jor (grp cl k).1 (cl k), (grp cl k).2 + 1)).1, (if tb (grp cl k).1 k = true then grp cl k else (jor (grp cl k).1 (cl k), (grp cl k).2 + 1)).2, ((k + 1 : Nat) : Int))
      have t := tb_test1 (x := (grp cl k).1) (k := k) (by omega)
      have gb := grp_bd (cl := cl) k
      unfold F_X12_groups_B26
      rw [e11, if_neg (by omega)]
      by_cases q : tb (grp cl k).1 k = true
      · rw [if_pos (t.mpr q), if_pos q]
        unfold F_X12_groups_J123
        rw [ja_1 (by omega) (by omega)]; rfl
      · rw [if_neg (fun z => q (t.mp z)), if_neg q, mid _ _ k nx hk]
        unfold F_X12_groups_J118 F_X12_groups_J123
        rw [ja_1 (k := (k : Int)) (by omega) (by omega), ja_1 (by omega) (by omega)]; rfl
    · show F_X12_groups_B26 N nx (grp cl (dm D)).1 (grp cl (dm D)).2 (dm D : Int) σ1 = _
      unfold F_X12_groups_B26
      rw [e11, if_pos (Int.le_refl _)]
  · rw [if_neg h2, if_pos rfl, if_neg h2]
    exact QM.same V M rfl
end GRP
