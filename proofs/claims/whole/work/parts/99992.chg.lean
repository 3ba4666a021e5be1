/-! THE CALLS that change something, but for feed and text -/
section CHG
variable {N : Nat} {σ : Sto} {b u : Nat} {D : Dk} {Ds : Nat → Dk}
theorem MK.fx {σ1 : Sto} (M : MK σ D) (V : Val D) (h : FX σ σ1) : MK σ1 D := M.mut id rfl (M.b0.cg (fun z _ _ => h _ _ (by omega)) V) (fun y z q => h y z (by omega))
theorem s_claim (hN : BigN N) (H : INV σ) (x y z : Int) : Ask (F_X11_claim N x y z σ) (fun σ1 => F_X12_claim N x y z σ1) := by
  obtain ⟨b, D, u, Ds, I⟩ := H
  obtain ⟨i1, i2, i3, i4, i5, i6, i7, i8⟩ := id I
  obtain ⟨σ1, a1, a2, a3⟩ := x_claim hN i4 i1 i6.1 i6.2.1 x y z
  obtain ⟨σ2, b1, b2, b3⟩ := m_claim hN i4 (i3.fx i4 a2) i6.1 ((a2 _ _ (by omega)).trans i6.2.2.1) x y z
  refine ⟨_, σ1, σ2, a1, b1, ?_⟩
  rcases a3 with ⟨n1, n2, n3⟩ | ⟨n1, n2, n3, n4⟩
  · rcases b3 with ⟨m1, m2, m3⟩ | ⟨m1, m2, m3⟩
    · exact ⟨b, D, u, Ds, I.same (XSame.ro n2 n3) m2 m3⟩
    · omega
  · rcases b3 with ⟨m1, m2, m3⟩ | ⟨m1, m2, m3⟩
    · omega
    · have lq := (lk_bd i4 n2.2.1).1
      have S := addC_sm D x y z
      refine I.step n3 a2 n4 m2 b2 m3 (addC_val i4 n2.2.2.1 ⟨lq.1, lq.2.1⟩ ⟨lq.2.2.1, lq.2.2.2.1⟩ n2.1.1 n2.1.2) ?_ (inv_add D x y z) S.sameT.sy
      show Gd (addC D x y z) (gD (addC D x y z)) (cD (addC D x y z)) ((addC D x y z).2 5)
      rw [S.g.1, S.g.2.1, S.g.2.2]
      exact gd_add i5 n2.2.1 n2.2.2.2.1 n2.2.2.2.2.1 n2.2.2.2.2.2
theorem s_withdraw (hN : BigN N) (H : INV σ) (x : Int) : Ask (F_X11_withdraw N x σ) (fun σ1 => F_X12_withdraw N x σ1) := by
  obtain ⟨b, D, u, Ds, I⟩ := H
  obtain ⟨i1, i2, i3, i4, i5, i6, i7, i8⟩ := id I
  obtain ⟨σ1, a1, a2, a3⟩ := x_withdraw hN i4 i1 i6.1 i6.2.1 x
  obtain ⟨σ2, b1, b2, b3⟩ := m_withdraw hN i4 (i3.fx i4 a2) i6.1 ((a2 _ _ (by omega)).trans i6.2.2.1) x
  refine ⟨_, σ1, σ2, a1, b1, ?_⟩
  rcases a3 with ⟨n1, n2, n3⟩ | ⟨n1, n3, n4⟩
  · rcases b3 with ⟨m1, m2, m3⟩ | ⟨m1, m2, m3⟩
    · exact ⟨b, D, u, Ds, I.same (XSame.ro n2 n3) m2 m3⟩
    · exact absurd m1 n1
  · rcases b3 with ⟨m1, m2, m3⟩ | ⟨m1, m2, m3⟩
    · exact absurd n1 m1
    · obtain ⟨c, rfl⟩ : ∃ c : Nat, x = c := ⟨x.toNat, by omega⟩
      rw [Int.toNat_natCast] at n3 m2
      have hc : c < dc D := by omega
      exact I.step n3 a2 n4 m2 b2 m3 (rm_val i4 hc) (rm_gd i4 i5 hc) (inv_rm i4 hc) (rmC_sm D c).sameT.sy
theorem s_result (hN : BigN N) (H : INV σ) (x y : Int) : Ask (F_X11_result N x y σ) (fun σ1 => F_X12_result_ N x y σ1) := by
  obtain ⟨b, D, u, Ds, I⟩ := H
  obtain ⟨i1, i2, i3, i4, i5, i6, i7, i8⟩ := id I
  obtain ⟨σ1, a1, a2, a3⟩ := x_result hN i4 i1 i6.1 i6.2.1 x y
  obtain ⟨σ2, b1, b2, b3⟩ := m_resultQ hN i4 (i3.fx i4 a2) i6.1 ((a2 _ _ (by omega)).trans i6.2.2.1) x y
  refine ⟨_, σ1, σ2, a1, b1, ?_⟩
  rcases a3 with ⟨n1, n2, n3⟩ | ⟨n1, n3, n4⟩
  · rcases b3 with ⟨m1, m2, m3⟩ | ⟨m1, m2, m3⟩
    · exact ⟨b, D, u, Ds, I.same (XSame.ro n2 n3) m2 m3⟩
    · exact absurd m1 n1
  · rcases b3 with ⟨m1, m2, m3⟩ | ⟨m1, m2, m3⟩
    · exact absurd n1 m1
    · exact I.step n3 a2 n4 m2 b2 m3 (sr_val i4 n1.2.1.1 n1.2.1.2) (sr_gd i4 i5 n1.2.1.1 n1.2.1.2 n1.2.2) (inv_set n1.1) setR_sm
theorem s_own (hN : BigN N) (H : INV σ) (x y z w : Int) : Ask (F_X11_own N x y z w σ) (fun σ1 => F_X12_own N x y z w σ1) := by
  obtain ⟨b, D, u, Ds, I⟩ := H
  obtain ⟨i1, i2, i3, i4, i5, i6, i7, i8⟩ := id I
  obtain ⟨σ1, a1, a2, a3⟩ := x_own hN i4 i5 i1 i6.1 i6.2.1 x y z w
  obtain ⟨σ2, b1, b2, b3⟩ := m_own hN i4 i5 (i3.fx i4 a2) i6.1 ((a2 _ _ (by omega)).trans i6.2.2.1) x y z w
  refine ⟨_, σ1, σ2, a1, b1, ?_⟩
  rcases a3 with ⟨n1, n2⟩ | ⟨n1, n3, n4⟩
  · rcases b3 with ⟨m1, m2, m3⟩ | ⟨m1, m2, m3⟩
    · exact ⟨b, D, u, Ds, I.same n2 m2 m3⟩
    · exact absurd m1 n1
  · rcases b3 with ⟨m1, m2, m3⟩ | ⟨m1, m2, m3⟩
    · exact absurd n1 m1
    · exact I.step n3 a2 n4 m2 b2 m3 (addO_val i4 n1.2.1 n1.1) (addO_gd i4 i5 n1.2.1 n1.1 n1.2.2) inv_own addO_sm
theorem s_claimAll (hN : BigN N) (H : INV σ) : Ask (F_X11_claimAll N σ) (fun σ1 => F_X12_claimAll N σ1) := by
  obtain ⟨b, D, u, Ds, I⟩ := H
  obtain ⟨i1, i2, i3, i4, i5, i6, i7, i8⟩ := id I
  obtain ⟨σ1, a1, R, a2, a3⟩ := x_claimAll hN i4 i5 i1 i6.1 i6.2.1
  obtain ⟨σ2, b1, b2, b3⟩ := m_claimAll hN i4 i5 R (i3.fx i4 a2) i6.1 ((a2 _ _ (by omega)).trans i6.2.2.1)
  refine ⟨_, σ1, σ2, a1, b1, ?_⟩
  rcases a3 with ⟨n1, n0, n2, n3⟩ | ⟨n1, n3, n4⟩
  · rcases b3 with ⟨m1, m2, m3⟩ | ⟨m1, m2, m3⟩
    · exact ⟨b, D, u, Ds, I.same (XSame.ro n2 n3) m2 m3⟩
    · omega
  · rcases b3 with ⟨m1, m2, m3⟩ | ⟨m1, m2, m3⟩
    · omega
    · have ok := caE_ok i4 i5 R 144 (Nat.le_refl _)
      exact I.step n3 a2 n4 m2 b2 m3 ok.2.1 (caE_gd i4 i5 R) (inv_all i4 i5 R) ok.1.sameT.sy
theorem s_undo (hN : BigN N) (H : INV σ) : Ask (F_X11_undo N σ) (fun σ1 => F_X12_undo N σ1) := by
  obtain ⟨b, D, u, Ds, I⟩ := H
  obtain ⟨i1, i2, i3, i4, i5, i6, i7, i8⟩ := id I
  obtain ⟨u1, u2, u3, u4, u5⟩ := id i6
  have hD : 0 < u → Ds (u - 1 + 1) = D := fun h => by rw [show u - 1 + 1 = u by omega]; exact u4
  obtain ⟨σ1, a1, a2, a4, a3⟩ := x_undo (E := Ds (u - 1)) hN i4 i1 u1 u2 (fun h => by
    have v := u5 (u - 1) (by omega)
    rw [hD h] at v
    exact ⟨v.1, v.2.2.1, v.2.2.2.2⟩)
  obtain ⟨σ2, b1, b2, b4, b3⟩ := m_undo (E := Ds (u - 1)) hN i4 (i3.fx i4 a2) u1 ((a2 _ _ (by omega)).trans u3) (fun h => by
    have v := u5 (u - 1) (by omega)
    exact ⟨v.1, v.2.2.1, v.2.2.2.1.cg (fun z _ _ => a2 _ _ (by omega)) v.1⟩)
  refine ⟨_, σ1, σ2, a1, b1, ?_⟩
  rcases a3 with ⟨n1, n2⟩ | ⟨n1, n2, n3⟩
  · rcases b3 with ⟨m1, m2, m3⟩ | ⟨m1, m2, m3⟩
    · subst n2
      exact ⟨b, D, u, Ds, I.same (XSame.ro i1 RO.rf) m2 m3⟩
    · omega
  · rcases b3 with ⟨m1, m2, m3⟩ | ⟨m1, m2, m3⟩
    · omega
    · have v := u5 (u - 1) (by omega)
      have f : ∀ y z, (y = 0 ∧ z ≠ 16 ∧ z ≠ 17) ∨ y = 1 ∨ y = 2 ∨ (35 ≤ y ∧ y ≤ 45) ∨ (y = 94 ∧ (z = 1 ∨ (3 ≤ z ∧ z ≤ 23) ∨ z = 26)) ∨ (95 ≤ y ∧ y ≤ 100) ∨ (y = 101 ∧ 400 ≤ z ∧ z < 600) → σ2.1 y z = σ.1 y z := fun y z q => by rw [b2.1 y z (by omega)]; exact a2 y z (by omega)
      refine ⟨b, Ds (u - 1), u - 1, Ds, n2.cg2 (fun a j q => b2.1 a j (by omega)) (n2.2.2.2.2.1.cg (fun j => b2.1 _ _ (by omega)) b2.2), by rw [f _ _ (by omega)]; exact i2, m2, v.1, v.2.1, ⟨by omega, ?_, ?_, rfl, fun k hk => ?_⟩, i7.cg v.2.2.1 (fun y z p q => f y z (by omega)) (f _ _ (by omega)) (fun z p q => f _ _ (by omega)), i8.cg (fun y z q => f y z (by omega)) (fun z q => f _ _ (by omega))⟩
      · rw [b2.1 _ _ (by omega), n3]; omega
      · rw [m3]; omega
      · have w := u5 k (by omega)
        refine ⟨w.1, w.2.1, v.2.2.1.sy.tr w.2.2.1, w.2.2.2.1.cg (fun z z0 z1 => by rw [b4 z (by omega)]; exact a2 _ _ (by omega)) w.1, ?_⟩
        show InvR (σ2.1 34 _) (σ2.1 34 _) (σ2.1 34 _) (σ2.1 34 _) (σ2.1 34 _) _ _
        rw [b2.1 _ _ (by omega), b2.1 _ _ (by omega), b2.1 _ _ (by omega), b2.1 _ _ (by omega), b2.1 _ _ (by omega), a4, a4, a4, a4, a4]
        exact w.2.2.2.2
theorem s_keep (hN : BigN N) (H : INV σ) : Ask (F_X11_keep N σ) (fun σ1 => F_X12_keep N σ1) := by
  obtain ⟨b, D, u, Ds, I⟩ := H
  obtain ⟨i1, i2, i3, i4, i5, i6, i7, i8⟩ := id I
  obtain ⟨σ1, a1, a2, a3, a4, a5⟩ := x_keep (N := N) i4 i1
  have M1 : MK σ1 D := i3.mut id rfl (i3.b0.cg (fun z _ _ => a3 _ _ (by omega)) i4) (fun y z q => a3 y z (by omega))
  obtain ⟨σ2, b1, b2, b3, b4, b5, b6⟩ := m_keep (N := N) hN i4 M1
  have f : ∀ y z, y ≤ 34 ∨ (46 ≤ y ∧ ¬ (y = 101 ∧ 400 ≤ z ∧ z < 600) ∧ ¬ (y = 94 ∧ (z = 2 ∨ z = 26))) → σ2.1 y z = σ.1 y z := fun y z q => by rw [b3 y z (by omega) (by omega)]; exact a3 y z (by omega)
  refine ⟨_, σ1, σ2, a1, b1, b, D, u, Ds, a2.cg2 (fun y z q => b3 y z (by omega) (by omega)) (a2.2.2.2.2.1.cg (fun j => b3 _ _ (by omega) (by omega)) (fun j => by rw [b4])), by rw [f _ _ (by omega)]; exact i2, b2, i4, i5, i6.cg (fun y z q => f y z (by omega)) (f _ _ (by omega)) (fun z hz => f _ _ (by omega)), ⟨?_, Or.inr ⟨?_, D, i4, i5, SameT.rf, b6, a5.cg (fun y z p q => b3 y z (by omega) (by omega))⟩⟩, i8.cg (fun y z q => f y z (by omega)) (fun z q => f _ _ (by omega))⟩
  · rw [b5, b3 _ _ (by omega) (by omega)]; exact a4
  · rw [b3 _ _ (by omega) (by omega)]; exact a4
theorem s_back (hN : BigN N) (H : INV σ) : Ask (F_X11_back N σ) (fun σ1 => F_X12_back N σ1) := by
  obtain ⟨b, D, u, Ds, I⟩ := H
  obtain ⟨i1, i2, i3, i4, i5, i6, i7, i8⟩ := id I
  rcases i7.2 with h0 | ⟨h1, E, e1, e2, e3, e4, e5⟩
  · have h26 : σ.1 94 26 = 0 := i7.1.symm.trans h0
    obtain ⟨M', m'⟩ := i3.up2 i4 0
    refine ⟨-1, σ, upI σ 94 2 0, by unfold F_X11_back; rw [h0, if_pos rfl], ?_, b, D, u, Ds, I.same (XSame.ro i1 RO.rf) M' m'⟩
    show F_X12_back N σ = _
    unfold F_X12_back
    rw [up_ix (by decide), h26, if_pos rfl]
  · have h26 : σ.1 94 26 = 1 := i7.1.symm.trans h1
    obtain ⟨σ1, a1, a2, a3, a4⟩ := x_back (N := N) i4 i1 e1 e3 h1 e5
    obtain ⟨σ2, b1, b2, b3, b4⟩ := m_back hN i4 (i3.fx i4 a3) e1 e3 ((a3 _ _ (by omega)).trans h26) (e4.cg (fun z _ _ => a3 _ _ (by omega)) e1)
    have f : ∀ y z, (y = 0 ∧ z ≠ 16 ∧ z ≠ 17) ∨ y = 1 ∨ y = 2 ∨ (35 ≤ y ∧ y ≤ 45) ∨ (y = 94 ∧ (z = 1 ∨ (3 ≤ z ∧ z ≤ 23) ∨ z = 26)) ∨ (95 ≤ y ∧ y ≤ 100) ∨ (y = 101 ∧ 400 ≤ z ∧ z < 600) → σ2.1 y z = σ.1 y z := fun y z q => by rw [b3.1 y z (by omega)]; exact a3 y z (by omega)
    refine ⟨_, σ1, σ2, a1, b1, b, E, 0, fun _ => E, a2.cg2 (fun a j q => b3.1 a j (by omega)) (a2.2.2.2.2.1.cg (fun j => b3.1 _ _ (by omega)) b3.2), by rw [f _ _ (by omega)]; exact i2, b2, e1, e2, ⟨by omega, by rw [b3.1 _ _ (by omega)]; exact a4, b4, rfl, fun k hk => by omega⟩, i7.cg e3 (fun y z p q => f y z (by omega)) (f _ _ (by omega)) (fun z p q => f _ _ (by omega)), i8.cg (fun y z q => f y z (by omega)) (fun z q => f _ _ (by omega))⟩
end CHG
