/-! QUESTIONS, first part: percents, shares, who is RELATED, LINKS -/
section ASK
variable {N : Nat} {σ : Sto} {b : Nat} {D : Dk}
abbrev isM (D : Dk) (a : Int) : Prop := 0 ≤ a ∧ a < dm D
abbrev isP (D : Dk) (a : Int) : Prop := 0 ≤ a ∧ a < dp D
abbrev isD (d : Int) : Prop := 0 ≤ d ∧ d ≤ 999
theorem k_areMembers (X : XC σ b D) (x y : Int) : F_X11_areMembers N x y σ = some (if isM D x ∧ isM D y then 1 else 0) := by
  unfold F_X11_areMembers F_X11_areMembers_J26
  rw [X.at, k_hasMember X.2.2.1, Option.bind_some]
  by_cases h1 : isM D x
  · rw [if_pos h1, if_neg (by decide), X.at, k_hasMember X.2.2.1, Option.bind_some]
    by_cases h2 : isM D y
    · rw [if_pos h2, if_neg (by decide), if_pos ⟨h1, h2⟩]
    · rw [if_neg h2, if_pos rfl, if_neg (fun z => h2 z.2)]
  · rw [if_neg h1, if_pos rfl, if_neg (fun z => h1 z.1)]
theorem k_isPair (X : XC σ b D) (x y : Int) : F_X11_isPair N x y σ = some (if x ≠ y ∧ isM D x ∧ isM D y then 1 else 0) := by
  unfold F_X11_isPair F_X11_isPair_J18
  by_cases h : x = y
  · rw [if_pos h, if_neg (fun z => z.1 h)]
  · rw [if_neg h, k_areMembers X, Option.bind_some]
    by_cases h1 : isM D x ∧ isM D y
    · rw [if_pos h1, if_neg (by decide), if_pos ⟨h, h1⟩]
    · rw [if_neg h1, if_pos rfl, if_neg (fun z => h1 z.2)]
theorem k_isDay (d : Int) : F_X11_isDay N d σ = some (if isD d then 1 else 0) := by
  unfold F_X11_isDay F_X11_isDay_J15
  by_cases h1 : d < 0
  · rw [if_pos h1, if_neg (by omega)]
  · rw [if_neg h1]
    by_cases h2 : 999 < d
    · rw [if_pos h2, if_neg (by omega)]
    · rw [if_neg h2, if_pos (by omega)]
theorem m_areMembers (M : ModR σ D) (x y : Int) : F_X12_areMembers N x y σ = some (if isM D x ∧ isM D y then 1 else 0) := by
  unfold F_X12_areMembers F_X12_areMembers_J20
  rw [m_isMember M, Option.bind_some]
  by_cases h1 : isM D x
  · rw [if_pos h1, if_neg (by decide), m_isMember M, Option.bind_some]
    by_cases h2 : isM D y
    · rw [if_pos h2, if_neg (by decide), if_pos ⟨h1, h2⟩]
    · rw [if_neg h2, if_pos rfl, if_neg (fun z => h2 z.2)]
  · rw [if_neg h1, if_pos rfl, if_neg (fun z => h1 z.1)]
theorem k_sh (hN : BigN N) (V : Val D) (X : XC σ b D) (day : Int) : ∃ σ', F_X10_load N b day σ = some σ' ∧ ShrR σ' D day ∧ XC σ' b D ∧ RO σ σ' := by
  obtain ⟨σ1, a1, a2, a3⟩ := k_load hN V X.lt day X.2.2.1 X.2.2.2.2.1
  have f := (fr_X10_load a1).1
  have f : ∀ a j, ¬ ((a = 46 ∧ j = 5) ∨ (47 ≤ a ∧ a ≤ 49)) → σ1.1 a j = σ.1 a j := fun a j h => f a j h
  exact ⟨σ1, a1, a2, X.cg (fun a j h => f a j (by omega)) a3, fun a j h => f a j (by omega)⟩
theorem k_shj (hN : BigN N) (V : Val D) (X : XC σ b D) (day : Int) : ∃ σ1 σ2, F_X10_load N b day σ = some σ1 ∧ σ1.1 0 1 = b ∧ F_X10_judge N (σ1.1 b 10) σ1 = some σ2 ∧ RulR σ2 (pct D day) (gD D) (dm D) ∧ σ2.1 46 5 = dm D ∧ XC σ2 b D ∧ RO σ σ2 := by
  obtain ⟨σ1, a1, a2, a3, a4⟩ := k_sh hN V X day
  obtain ⟨σ2, b1, b2, b3, b4⟩ := k_judge (N := N) hN V a2 (gD D)
  refine ⟨σ1, σ2, a1, a3.2.1, by rw [a3.2.2.1.1.2.2.1]; exact b1, b4, (b3 _ _ (by decide)).trans a2.1, a3.cg (fun a j h => b3 a j (by omega)) (a3.2.2.2.2.1.cg (fun j => b3 _ _ (by decide)) (fun j => by rw [b2])), a4.tr (fun a j h => b3 a j (by omega))⟩
theorem m_sh (hN : BigN N) (V : Val D) (M : MK σ D) (day : Int) : ∃ σ', F_X12_laysShares N day σ = some σ' ∧ ShrM σ' D day ∧ MK σ' D ∧ MO σ σ' := by
  obtain ⟨σ1, a1, a2, a3⟩ := m_laysShares hN M.1 V day
  have f := fr_X12_laysShares a1
  have m : MO σ σ1 := ⟨fun a j _ => by rw [a2], fun j => f.2 49 j (fun z => by unfold Wr_X12_laysShares at z; omega)⟩
  exact ⟨σ1, a1, a3, M.cg V m, m⟩
theorem m_st (hN : BigN N) (V : Val D) (M : MK σ D) (g : Int) : ∃ σ', F_X12_laysStretches N g σ = some σ' ∧ StrM σ' D g ∧ MK σ' D ∧ MO σ σ' := by
  obtain ⟨σ1, a1, a2⟩ := m_stretches hN M.1 V g
  have f := fr_X12_laysStretches a1
  have m : MO σ σ1 := ⟨fun a j h => f.1 a j (fun z => by unfold Wr_X12_laysStretches at z; omega), fun j => f.2 49 j (fun z => by unfold Wr_X12_laysStretches at z; omega)⟩
  exact ⟨σ1, a1, a2, M.cg V m, m⟩
theorem QX.same {r : Int} {o : Option (Int × Sto)} (X : XC σ b D) (h : o = some (r, σ)) : QX σ b D o r := ⟨σ, h, X, RO.rf⟩
theorem QM.same {r : Int} {o : Option (Int × Sto)} (V : Val D) (M : MK σ D) (h : o = some (r, upI σ 94 2 0)) : QM σ D o r := ⟨_, h, (M.up2 V 0).1, (M.up2 V 0).2⟩
/-! PERCENT -/
def rPercent (D : Dk) (x y d : Int) : Int := if (x ≠ y ∧ isM D x ∧ isM D y) ∧ isD d then pct D d x y else -1
theorem x_percent (hN : BigN N) (V : Val D) (X : XC σ b D) (x y d : Int) : QX σ b D (F_X11_percent N x y d σ) (rPercent D x y d) := by
  have vz := V.sz
  unfold F_X11_percent rPercent
  rw [k_isPair X, Option.bind_some]
  by_cases h1 : x ≠ y ∧ isM D x ∧ isM D y
  · rw [if_pos h1, if_neg (by decide), k_isDay, Option.bind_some]
    by_cases h2 : isD d
    · rw [if_pos h2, if_neg (by decide), if_pos ⟨h1, h2⟩, X.at]
      obtain ⟨σ1, a1, a2, a3, a4⟩ := k_sh hN V X d
      have ix : ja (jm x 8) y = 8 * x + y := ix8 (by omega) (by omega) (by omega) (by omega)
      rw [a1, Option.bind_some, ix, inb_in (by omega), a2.2.1 x y h1.2.1.1 h1.2.1.2 h1.2.2.1 h1.2.2.2 h1.1]
      exact ⟨σ1, rfl, a3, a4⟩
    · rw [if_neg h2, if_pos rfl, if_neg (fun z => h2 z.2)]
      exact QX.same X rfl
  · rw [if_neg h1, if_pos rfl, if_neg (fun z => h1 z.1)]
    exact QX.same X rfl
theorem m_percent (hN : BigN N) (V : Val D) (M : MK σ D) (x y d : Int) : QM σ D (F_X12_percent N x y d σ) (rPercent D x y d) := by
  have M' := (M.up2 V 0).1
  unfold F_X12_percent F_X12_percent_J36 rPercent
  rw [m_areMembers M'.1, Option.bind_some]
  by_cases h1 : isM D x ∧ isM D y
  · rw [if_pos h1, if_neg (by decide)]
    by_cases h0 : x = y
    · rw [if_pos h0, if_neg (fun z => z.1.1 h0)]
      exact QM.same V M rfl
    · rw [if_neg h0, m_isDay, Option.bind_some]
      by_cases h2 : isD d
      · rw [if_pos h2, if_neg (by decide), if_pos ⟨⟨h0, h1⟩, h2⟩, m_percentOf hN M'.1 V]
        exact QM.same V M rfl
      · rw [if_neg h2, if_pos rfl, if_neg (fun z => h2 z.2)]
        exact QM.same V M rfl
  · rw [if_neg h1, if_pos rfl, if_neg (fun z => h1 z.1.2)]
    exact QM.same V M rfl
/-! SHARE and PARTS: shares as bits, as ten thousandths -/
theorem shr_lt {P : Int → Int → Int} (hP : ∀ c j, 0 ≤ P c j ∧ P c j ≤ 100) {x y : Int} (h : y ≤ x + 7) : (shr P x y).toNat < 2139095040 ∧ ((shr P x y).toNat = 0 ∨ 2 ^ 23 ≤ (shr P x y).toNat) := by
  by_cases q : y < x
  · have e : shr P x y = FP.fconst0 := by unfold shr; rw [if_pos q]
    rw [e]
    exact ⟨by decide, Or.inl (by decide)⟩
  · have o := shr_ok hP (a := x) (b := y) (by omega) h
    refine ⟨by omega, ?_⟩
    rcases o.2 with z | z
    · exact Or.inl z
    · exact Or.inr (by omega)
def rShare (D : Dk) (x y d : Int) : Int := if (isM D x ∧ isM D y) ∧ isD d then ((shr (pct D d) x y).toNat : Int) else -1
def rParts (D : Dk) (x y d : Int) : Int := if (isM D x ∧ isM D y) ∧ isD d then jd2i (FP.dadd (FP.dmul (FP.f2d (shr (pct D d) x y)) 4666723172467343360) 4602678819172646912) else -1
theorem x_share (hN : BigN N) (V : Val D) (X : XC σ b D) (x y d : Int) : QX σ b D (F_X11_share N x y d σ) (rShare D x y d) := by
  have vz := V.sz
  unfold F_X11_share rShare
  rw [k_areMembers X, Option.bind_some]
  by_cases h1 : isM D x ∧ isM D y
  · rw [if_pos h1, if_neg (by decide), k_isDay, Option.bind_some]
    by_cases h2 : isD d
    · rw [if_pos h2, if_neg (by decide), if_pos ⟨h1, h2⟩, X.at]
      obtain ⟨σ1, a1, a2, a3, a4⟩ := k_sh hN V X d
      have ix : ja (jm x 8) y = 8 * x + y := ix8 (by omega) (by omega) (by omega) (by omega)
      have o := shr_lt (pct_bd V d) (x := x) (y := y) (by omega)
      rw [a1, Option.bind_some, ix, inb_in (by omega), a2.2.2 x y h1.1.1 h1.1.2 h1.2.1 h1.2.2, k_bitsOf hN o.1 o.2]
      exact ⟨σ1, rfl, a3, a4⟩
    · rw [if_neg h2, if_pos rfl, if_neg (fun z => h2 z.2)]
      exact QX.same X rfl
  · rw [if_neg h1, if_pos rfl, if_neg (fun z => h1 z.1)]
    exact QX.same X rfl
theorem m_share (hN : BigN N) (V : Val D) (M : MK σ D) (x y d : Int) : QM σ D (F_X12_share N x y d σ) (rShare D x y d) := by
  have vz := V.sz
  obtain ⟨M', m'⟩ := M.up2 V 0
  unfold F_X12_share rShare
  rw [m_areMembers M'.1, Option.bind_some]
  by_cases h1 : isM D x ∧ isM D y
  · rw [if_pos h1, if_neg (by decide), m_isDay, Option.bind_some]
    by_cases h2 : isD d
    · obtain ⟨σ1, a1, a2, a3, a4⟩ := m_sh hN V M' d
      have ix : ja (jm 8 x) y = 8 * x + y := ix8' (by omega) (by omega) (by omega) (by omega)
      have o := shr_lt (pct_bd V d) (x := x) (y := y) (by omega)
      rw [if_pos h2, if_neg (by decide), if_pos ⟨h1, h2⟩, a1, Option.bind_some, ix, inb_in (by omega), a2 x y h1.1.1 h1.1.2 h1.2.1 h1.2.2, m_jfbits o.1]
      exact ⟨σ1, rfl, a3, m'.tr a4⟩
    · rw [if_neg h2, if_pos rfl, if_neg (fun z => h2 z.2)]
      exact QM.same V M rfl
  · rw [if_neg h1, if_pos rfl, if_neg (fun z => h1 z.1)]
    exact QM.same V M rfl
theorem x_parts (hN : BigN N) (V : Val D) (X : XC σ b D) (x y d : Int) : QX σ b D (F_X11_parts N x y d σ) (rParts D x y d) := by
  have vz := V.sz
  unfold F_X11_parts rParts
  rw [k_areMembers X, Option.bind_some]
  by_cases h1 : isM D x ∧ isM D y
  · rw [if_pos h1, if_neg (by decide), k_isDay, Option.bind_some]
    by_cases h2 : isD d
    · rw [if_pos h2, if_neg (by decide), if_pos ⟨h1, h2⟩, X.at]
      obtain ⟨σ1, a1, a2, a3, a4⟩ := k_sh hN V X d
      have ix : ja (jm x 8) y = 8 * x + y := ix8 (by omega) (by omega) (by omega) (by omega)
      have o := shr_lt (pct_bd V d) (x := x) (y := y) (by omega)
      have dk := d_ok o.1
      rw [a1, Option.bind_some, ix, inb_in (by omega), a2.2.2 x y h1.1.1 h1.1.2 h1.2.1 h1.2.2, grd_in dk.1, grd_in dk.2.1, grd_in dk.2.2]
      exact ⟨σ1, rfl, a3, a4⟩
    · rw [if_neg h2, if_pos rfl, if_neg (fun z => h2 z.2)]
      exact QX.same X rfl
  · rw [if_neg h1, if_pos rfl, if_neg (fun z => h1 z.1)]
    exact QX.same X rfl
theorem m_parts (hN : BigN N) (V : Val D) (M : MK σ D) (x y d : Int) : QM σ D (F_X12_parts N x y d σ) (rParts D x y d) := by
  have vz := V.sz
  obtain ⟨M', m'⟩ := M.up2 V 0
  unfold F_X12_parts rParts
  rw [m_areMembers M'.1, Option.bind_some]
  by_cases h1 : isM D x ∧ isM D y
  · rw [if_pos h1, if_neg (by decide), m_isDay, Option.bind_some]
    by_cases h2 : isD d
    · obtain ⟨σ1, a1, a2, a3, a4⟩ := m_sh hN V M' d
      have ix : ja (jm 8 x) y = 8 * x + y := ix8' (by omega) (by omega) (by omega) (by omega)
      have o := shr_lt (pct_bd V d) (x := x) (y := y) (by omega)
      have dk := d_ok o.1
      rw [if_pos h2, if_neg (by decide), if_pos ⟨h1, h2⟩, a1, Option.bind_some, ix, inb_in (by omega), a2 x y h1.1.1 h1.1.2 h1.2.1 h1.2.2, grd_in dk.1, grd_in dk.2.1, grd_in dk.2.2]
      exact ⟨σ1, rfl, a3, m'.tr a4⟩
    · rw [if_neg h2, if_pos rfl, if_neg (fun z => h2 z.2)]
      exact QM.same V M rfl
  · rw [if_neg h1, if_pos rfl, if_neg (fun z => h1 z.1)]
    exact QM.same V M rfl
/-! CONTROLS, RELATED -/
def rControls (D : Dk) (x y d : Int) : Int := if (x ≠ y ∧ isM D x ∧ isM D y) ∧ isD d then (if ctlB (pct D d) (gD D) x y = true then 1 else 0) else -1
theorem x_controls (hN : BigN N) (V : Val D) (X : XC σ b D) (x y d : Int) : QX σ b D (F_X11_controls N x y d σ) (rControls D x y d) := by
  have vz := V.sz
  unfold F_X11_controls rControls
  rw [k_isPair X, Option.bind_some]
  by_cases h1 : x ≠ y ∧ isM D x ∧ isM D y
  · rw [if_pos h1, if_neg (by decide), k_isDay, Option.bind_some]
    by_cases h2 : isD d
    · rw [if_pos h2, if_neg (by decide), if_pos ⟨h1, h2⟩, X.at]
      obtain ⟨σ1, σ2, a1, a2, a3, a4, a5, a6, a7⟩ := k_shj hN V X d
      rw [a1, Option.bind_some, a2, asB_in X.1, a3, Option.bind_some, inb_in (by omega)]
      refine ⟨σ2, ?_, a6, a7⟩
      obtain ⟨z, rfl⟩ : ∃ z : Nat, y = z := ⟨y.toNat, by omega⟩
      have t := (a4 x h1.2.1.1 h1.2.1.2).2 z (by omega)
      rw [decide_eq_true (by omega : z < dm D), Bool.true_and] at t
      rw [tb_test (by omega), t]
    · rw [if_neg h2, if_pos rfl, if_neg (fun z => h2 z.2)]
      exact QX.same X rfl
  · rw [if_neg h1, if_pos rfl, if_neg (fun z => h1 z.1)]
    exact QX.same X rfl
theorem m_controls (hN : BigN N) (V : Val D) (M : MK σ D) (x y d : Int) : QM σ D (F_X12_controls N x y d σ) (rControls D x y d) := by
  have vz := V.sz
  obtain ⟨M', m'⟩ := M.up2 V 0
  unfold F_X12_controls rControls
  rw [m_areMembers M'.1, Option.bind_some]
  by_cases h1 : isM D x ∧ isM D y
  · rw [if_pos h1, if_neg (by decide)]
    by_cases h0 : x = y
    · rw [if_pos h0, if_neg (fun z => z.1.1 h0)]
      exact QM.same V M rfl
    · rw [if_neg h0, m_isDay, Option.bind_some]
      by_cases h2 : isD d
      · obtain ⟨σ1, a1, a2, a3, a4⟩ := m_sh hN V M' d
        rw [if_pos h2, if_neg (by decide), if_pos ⟨⟨h0, h1⟩, h2⟩, a1, Option.bind_some, inb_in (by omega), a3.1.1.1.2.2.1, m_isControl V a2 _ h1.1.1 h1.1.2 h1.2.1 h1.2.2, Option.bind_some]
        refine ⟨σ1, ?_, a3, m'.tr a4⟩
        by_cases q : ctlB (pct D d) (gD D) x y = true
        · rw [if_pos q, if_neg (by decide)]
        · rw [if_neg q, if_pos rfl]
      · rw [if_neg h2, if_pos rfl, if_neg (fun z => h2 z.2)]
        exact QM.same V M rfl
  · rw [if_neg h1, if_pos rfl, if_neg (fun z => h1 z.1.2)]
    exact QM.same V M rfl
def rRelated (D : Dk) (x d : Int) : Int := if isM D x ∧ isD d then rlb (pct D d) (gD D) (dm D) x else -1
theorem x_related (hN : BigN N) (V : Val D) (X : XC σ b D) (x d : Int) : QX σ b D (F_X11_related N x d σ) (rRelated D x d) := by
  have vz := V.sz
  unfold F_X11_related rRelated
  rw [X.at, k_hasMember X.2.2.1, Option.bind_some]
  by_cases h1 : isM D x
  · rw [if_pos h1, if_neg (by decide), k_isDay, Option.bind_some]
    by_cases h2 : isD d
    · rw [if_pos h2, if_neg (by decide), if_pos ⟨h1, h2⟩, X.at]
      obtain ⟨σ1, σ2, a1, a2, a3, a4, a5, a6, a7⟩ := k_shj hN V X d
      obtain ⟨z, rfl⟩ : ∃ z : Nat, x = z := ⟨x.toNat, by omega⟩
      rw [a1, Option.bind_some, a2, asB_in X.1, a3, Option.bind_some, k_relatives hN vz.1 a4 (by omega)]
      exact ⟨σ2, rfl, a6, a7⟩
    · rw [if_neg h2, if_pos rfl, if_neg (fun z => h2 z.2)]
      exact QX.same X rfl
  · rw [if_neg h1, if_pos rfl, if_neg (fun z => h1 z.1)]
    exact QX.same X rfl
theorem m_relatedTo (hN : BigN N) (V : Val D) (M : ModR σ D) {d : Int} (S : ShrM σ D d) {x : Nat} (hx : x < dm D) : F_X12_relatedTo N x σ = some (rlb (pct D d) (gD D) (dm D) x) := by
  have v := V.sz
  unfold F_X12_relatedTo
  refine loop_bits (b := fun q nx4 => F_X12_relatedTo_B4 N nx4 x q.1 q.2 σ) (c := fun i => relB (pct D d) (gD D) (dm D) x i) (fin := fun u => some u) (bigN hN) (fun k u nx hk hu => ?_) (fun u nx => ?_)
  · show F_X12_relatedTo_B4 N nx x u (k : Int) σ = _
    unfold F_X12_relatedTo_B4 F_X12_relatedTo_J35
    rw [M.1.1.1, if_neg (by omega), inb_in (by omega), M.1.1.2.2.1, m_areRelated hN M V S (gD D) (by omega) (by omega) (by omega) (by omega), Option.bind_some, ja_1 (by omega) (by omega), jor_0 hu]
    by_cases c : relB (pct D d) (gD D) (dm D) x k = true
    · rw [if_pos c, if_neg (by decide), if_pos c]
    · rw [if_neg c, if_pos rfl, if_neg c]
  · show F_X12_relatedTo_B4 N nx x u (dm D : Int) σ = _
    unfold F_X12_relatedTo_B4
    rw [M.1.1.1, if_pos (Int.le_refl _)]
theorem m_related (hN : BigN N) (V : Val D) (M : MK σ D) (x d : Int) : QM σ D (F_X12_related N x d σ) (rRelated D x d) := by
  have vz := V.sz
  obtain ⟨M', m'⟩ := M.up2 V 0
  unfold F_X12_related rRelated
  rw [m_isMember M'.1, Option.bind_some]
  by_cases h1 : isM D x
  · rw [if_pos h1, if_neg (by decide), m_isDay, Option.bind_some]
    by_cases h2 : isD d
    · obtain ⟨σ1, a1, a2, a3, a4⟩ := m_sh hN V M' d
      obtain ⟨z, rfl⟩ : ∃ z : Nat, x = z := ⟨x.toNat, by omega⟩
      rw [if_pos h2, if_neg (by decide), if_pos ⟨h1, h2⟩, a1, Option.bind_some, m_relatedTo hN V a3.1 a2 (by omega)]
      exact ⟨σ1, rfl, a3, m'.tr a4⟩
    · rw [if_neg h2, if_pos rfl, if_neg (fun z => h2 z.2)]
      exact QM.same V M rfl
  · rw [if_neg h1, if_pos rfl, if_neg (fun z => h1 z.1)]
    exact QM.same V M rfl
/-! LINKS -/
def rShared (D : Dk) (i j : Int) : Int := if isP D i ∧ isP D j ∧ D.2 4 i ≠ D.2 4 j then shd D (gD D) (D.2 5) i j else -1
theorem x_shared (hN : BigN N) (V : Val D) (X : XC σ b D) (i j : Int) : QX σ b D (F_X11_shared N i j σ) (rShared D i j) := by
  have vz := V.sz
  unfold F_X11_shared rShared
  rw [X.at, k_hasPeriod X.2.2.1, Option.bind_some]
  by_cases h1 : isP D i
  · rw [if_pos h1, if_neg (by decide), X.at, k_hasPeriod X.2.2.1, Option.bind_some]
    by_cases h2 : isP D j
    · rw [if_pos h2, if_neg (by decide), X.at, inb_in (by omega), X.at, inb_in (by omega), (X.2.2.1.2.2.1 i h1.1 h1.2).1, (X.2.2.1.2.2.1 j h2.1 h2.2).1]
      by_cases h3 : D.2 4 i = D.2 4 j
      · rw [if_pos h3, if_neg (fun z => z.2.2 h3)]
        exact QX.same X rfl
      · obtain ⟨σ1, a1, a2, a3, a4, a5, a6⟩ := k_refreshNet hN V X
        obtain ⟨e1, e2, e3, -⟩ := a2.2.2.1.2.2.1 i h1.1 h1.2
        obtain ⟨g1, g2, g3, -⟩ := a2.2.2.1.2.2.1 j h2.1 h2.2
        have w := V.per h1.1 h1.2
        have w2 := V.per h2.1 h2.2
        have m := mx_le (a := D.2 5 i) (b := D.2 5 j)
        have m2 := mn_le (a := D.2 6 i) (b := D.2 6 j)
        have dd := k_days hN V a5.1 (a := (D.2 4 i).toNat) (b := (D.2 4 j).toNat) (by omega) (by omega) (fr := mx (D.2 5 i) (D.2 5 j)) (to := mn (D.2 6 i) (D.2 6 j)) (by omega) (by omega) (by omega) (by omega)
        rw [Int.toNat_of_nonneg w.1.1, Int.toNat_of_nonneg w2.1.1] at dd
        rw [if_neg h3, a1, Option.bind_some, a2.at, a2.at, a2.at, a2.at, a2.at, a2.at, e1, e2, e3, g1, g2, g3, jmin_mn, jmax_mx, dd, if_pos ⟨h1, h2, h3⟩]
        exact ⟨σ1, rfl, a2, a3⟩
    · rw [if_neg h2, if_pos rfl, if_neg (fun z => h2 z.2.1)]
      exact QX.same X rfl
  · rw [if_neg h1, if_pos rfl, if_neg (fun z => h1 z.1)]
    exact QX.same X rfl
theorem m_sharedQ (hN : BigN N) (V : Val D) (M : MK σ D) (i j : Int) : QM σ D (F_X12_shared N i j σ) (rShared D i j) := by
  obtain ⟨M', m'⟩ := M.up2 V 0
  unfold F_X12_shared rShared
  rw [m_isPeriod M'.1, Option.bind_some]
  by_cases h1 : isP D i
  · rw [if_pos h1, if_neg (by decide), m_isPeriod M'.1, Option.bind_some]
    by_cases h2 : isP D j
    · rw [if_pos h2, if_neg (by decide), m_memberOf M'.1 V h1.1 h1.2, Option.bind_some, m_memberOf M'.1 V h2.1 h2.2, Option.bind_some]
      by_cases h3 : D.2 4 i = D.2 4 j
      · rw [if_pos h3, if_neg (fun z => z.2.2 h3)]
        exact QM.same V M rfl
      · obtain ⟨σ1, a1, a2, a3, a4⟩ := m_st hN V M' (gD D)
        rw [if_neg h3, inb_in (by omega), M'.1.1.1.2.2.1, a1, Option.bind_some, m_shared hN V a3.1 a2 h1.1 h1.2 h2.1 h2.2, if_pos ⟨h1, h2, h3⟩]
        exact ⟨σ1, rfl, a3, m'.tr a4⟩
    · rw [if_neg h2, if_pos rfl, if_neg (fun z => h2 z.2.1)]
      exact QM.same V M rfl
  · rw [if_neg h1, if_pos rfl, if_neg (fun z => h1 z.1)]
    exact QM.same V M rfl
abbrev lkD (D : Dk) (i j : Int) : Bool := lnk D (cD D) (D.2 5) i j
def rBound (D : Dk) (i j : Int) : Int := if lkD D i j = true then bnd D (gD D) (D.2 5) i j else -1
def rRoom (D : Dk) (i j : Int) : Int := if lkD D i j = true then bnd D (gD D) (D.2 5) i j - takOn D i j else -1
def rPrice (D : Dk) (i j : Int) : Int := if lkD D i j = true then prc D i j else -1
theorem lk_bd (V : Val D) {i j : Int} (h : lkD D i j = true) : (0 ≤ i ∧ i < dp D ∧ 0 ≤ j ∧ j < dp D ∧ D.2 7 i < 0 ∧ 0 < D.2 7 j) ∧ 0 ≤ bnd D (gD D) (D.2 5) i j ∧ bnd D (gD D) (D.2 5) i j ≤ 99999000 := by
  have q := lnk_iff.mp h
  have b := bnd_bd (g := gD D) V V.fok q.1 q.2.1 q.2.2.1 q.2.2.2.1 q.2.2.2.2.1 q.2.2.2.2.2.1
  omega
theorem x_bound (hN : BigN N) (V : Val D) (X : XC σ b D) (i j : Int) : QX σ b D (F_X11_bound N i j σ) (rBound D i j) := by
  have vz := V.sz
  obtain ⟨σ1, a1, a2, a3, a4, -⟩ := k_isLink hN V X i j
  unfold F_X11_bound rBound
  rw [a1, Option.bind_some]
  by_cases h : lkD D i j = true
  · have q := (lk_bd V h).1
    have ix : ja (jm i 12) j = 12 * i + j := ix12 (by omega) (by omega) (by omega) (by omega)
    show QX σ b D (if (if lkD D i j = true then (1 : Int) else 0) = 0 then _ else _) _
    rw [if_pos h, if_pos h, if_neg (by decide), ix, inb_in (by omega)]
    show QX σ b D (some (σ1.1 56 _, σ1)) _
    rw [((a4 h).2 i j (by omega) (by omega) (by omega) (by omega)).1, if_pos h]
    exact ⟨σ1, rfl, a2, a3⟩
  · show QX σ b D (if (if lkD D i j = true then (1 : Int) else 0) = 0 then _ else _) _
    rw [if_neg h, if_neg h, if_pos rfl]
    exact ⟨σ1, rfl, a2, a3⟩
theorem x_room (hN : BigN N) (V : Val D) (X : XC σ b D) (i j : Int) : QX σ b D (F_X11_room N i j σ) (rRoom D i j) := by
  have vz := V.sz
  obtain ⟨σ1, a1, a2, a3, a4, -⟩ := k_isLink hN V X i j
  unfold F_X11_room rRoom
  rw [a1, Option.bind_some]
  by_cases h : lkD D i j = true
  · have q := lk_bd V h
    have t := takOn_bd V i j
    have ix : ja (jm i 12) j = 12 * i + j := ix12 (by omega) (by omega) (by omega) (by omega)
    show QX σ b D (if (if lkD D i j = true then (1 : Int) else 0) = 0 then _ else _) _
    rw [if_pos h, if_pos h, if_neg (by decide), ix, inb_in (by omega)]
    show QX σ b D ((F_X5_takenOn N 29 i j σ1).bind _) _
    rw [k_takenOn hN V a2.2.2.2.1]
    show QX σ b D (some (js (σ1.1 56 _) (takOn D i j), σ1)) _
    rw [((a4 h).2 i j (by omega) (by omega) (by omega) (by omega)).1, if_pos h, js_eq ⟨by omega, by omega⟩]
    exact ⟨σ1, rfl, a2, a3⟩
  · show QX σ b D (if (if lkD D i j = true then (1 : Int) else 0) = 0 then _ else _) _
    rw [if_neg h, if_neg h, if_pos rfl]
    exact ⟨σ1, rfl, a2, a3⟩
theorem x_price (hN : BigN N) (V : Val D) (X : XC σ b D) (i j : Int) : QX σ b D (F_X11_price N i j σ) (rPrice D i j) := by
  have vz := V.sz
  obtain ⟨σ1, a1, a2, a3, a4, -⟩ := k_isLink hN V X i j
  unfold F_X11_price rPrice
  rw [a1, Option.bind_some]
  by_cases h : lkD D i j = true
  · have q := (lk_bd V h).1
    have ix : ja (jm i 12) j = 12 * i + j := ix12 (by omega) (by omega) (by omega) (by omega)
    show QX σ b D (if (if lkD D i j = true then (1 : Int) else 0) = 0 then _ else _) _
    rw [if_pos h, if_pos h, if_neg (by decide), ix, inb_in (by omega)]
    show QX σ b D (some (σ1.1 57 _, σ1)) _
    rw [((a4 h).2 i j (by omega) (by omega) (by omega) (by omega)).2, if_pos h]
    exact ⟨σ1, rfl, a2, a3⟩
  · show QX σ b D (if (if lkD D i j = true then (1 : Int) else 0) = 0 then _ else _) _
    rw [if_neg h, if_neg h, if_pos rfl]
    exact ⟨σ1, rfl, a2, a3⟩
theorem m_bound (hN : BigN N) (V : Val D) (M : MK σ D) (i j : Int) : QM σ D (F_X12_bound N i j σ) (rBound D i j) := by
  obtain ⟨M', m'⟩ := M.up2 V 0
  unfold F_X12_bound rBound
  rw [m_isLink M'.1 V, Option.bind_some]
  by_cases h : lkD D i j = true
  · have q := (lk_bd V h).1
    obtain ⟨σ1, a1, a2, a3, a4⟩ := m_st hN V M' (gD D)
    rw [if_pos h, if_neg (by decide), if_pos h, inb_in (by omega), M'.1.1.1.2.2.1, a1, Option.bind_some, m_boundOf hN V a3.1 a2 (by omega) (by omega) (by omega) (by omega) (by omega) (by omega)]
    exact ⟨σ1, rfl, a3, m'.tr a4⟩
  · rw [if_neg h, if_pos rfl, if_neg h]
    exact QM.same V M rfl
theorem m_room (hN : BigN N) (V : Val D) (M : MK σ D) (i j : Int) : QM σ D (F_X12_room N i j σ) (rRoom D i j) := by
  obtain ⟨M', m'⟩ := M.up2 V 0
  unfold F_X12_room rRoom
  rw [m_isLink M'.1 V, Option.bind_some]
  by_cases h : lkD D i j = true
  · have q := lk_bd V h
    have t := takOn_bd V i j
    obtain ⟨σ1, a1, a2, a3, a4⟩ := m_st hN V M' (gD D)
    rw [if_pos h, if_neg (by decide), if_pos h, inb_in (by omega), M'.1.1.1.2.2.1, a1, Option.bind_some, m_boundOf hN V a3.1 a2 (by omega) (by omega) (by omega) (by omega) (by omega) (by omega), Option.bind_some, m_claimedBy hN a3.1 V, Option.bind_some, js_eq ⟨by omega, by omega⟩]
    exact ⟨σ1, rfl, a3, m'.tr a4⟩
  · rw [if_neg h, if_pos rfl, if_neg h]
    exact QM.same V M rfl
theorem m_price (V : Val D) (M : MK σ D) (i j : Int) : QM σ D (F_X12_price N i j σ) (rPrice D i j) := by
  obtain ⟨M', m'⟩ := M.up2 V 0
  unfold F_X12_price rPrice
  rw [m_isLink M'.1 V, Option.bind_some]
  by_cases h : lkD D i j = true
  · have q := (lk_bd V h).1
    rw [if_pos h, if_neg (by decide), if_pos h, m_priceOf M'.1 V (by omega) (by omega) (by omega) (by omega)]
    exact QM.same V M rfl
  · rw [if_neg h, if_pos rfl, if_neg h]
    exact QM.same V M rfl
end ASK
