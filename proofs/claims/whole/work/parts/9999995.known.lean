/-! what the law knows at its entry -/
section KNOWN
variable {s : State} {args : Array Value}
theorem arr_k {ty : FieldType} (h4 : ty = .int ∨ ty = .byte ∨ ty = .float ∨ ty = .long) (h : (Cond.arrayClass ty).before args s = true) : ∃ cA : ClassId, ArrOfT s cA ty ∧ va_RA s cA ty := by
  obtain ⟨cA, kA, comp, h1, h2, h3⟩ := Cond.arrayClass_spec h
  refine ⟨cA, fun n z => ⟨fun k h => (by cases h), kA, h2, comp, h3⟩, ?_⟩
  rcases h4 with rfl | rfl | rfl | rfl <;> exact h1
theorem known (hg : ∀ w ∈ lwg, w.before args s = true) : ∃ (D : va_G) (T : ClassId × ClassId × ClassId × ClassId), va_K D vwCl [(T.1, .int), (T.2.1, .byte), (T.2.2.1, .float), (T.2.2.2, .long)] s := by
  obtain ⟨c0, i0, k0⟩ := u_known (C := RX0) (T := TX0) (N := 14) (n := 14) hg inw0 (hg _ (lwt1 (i := 77) (by decide +kernel) (by decide +kernel)))
  obtain ⟨c1, i1, k1⟩ := u_known (C := RX1) (T := TX1) (N := 14) (n := 14) hg inw1 (hg _ (lwt2 (i := 87) (by decide +kernel) (by decide +kernel)))
  obtain ⟨c2, i2, k2⟩ := u_known (C := RX2) (T := TX2) (N := 2) (n := 2) hg inw2 (hg _ (lwt1 (i := 223) (by decide +kernel) (by decide +kernel)))
  obtain ⟨c3, i3, k3⟩ := u_known (C := RX3) (T := TX3) (N := 4) (n := 4) hg inw3 (hg _ (lwt1 (i := 238) (by decide +kernel) (by decide +kernel)))
  obtain ⟨c4, i4, k4⟩ := u_known (C := RX4) (T := TX4) (N := 3) (n := 3) hg inw4 (hg _ (lwt2 (i := 54) (by decide +kernel) (by decide +kernel)))
  obtain ⟨c5, i5, k5⟩ := u_known (C := RX5) (T := TX5) (N := 4) (n := 4) hg inw5 (hg _ (lwt1 (i := 196) (by decide +kernel) (by decide +kernel)))
  obtain ⟨c6, i6, k6⟩ := u_known (C := RX6) (T := TX6) (N := 2) (n := 2) hg inw6 (hg _ (lwt2 (i := 70) (by decide +kernel) (by decide +kernel)))
  obtain ⟨c7, i7, k7⟩ := u_known (C := RX7) (T := TX7) (N := 5) (n := 5) hg inw7 (hg _ (lwt1 (i := 83) (by decide +kernel) (by decide +kernel)))
  obtain ⟨c8, i8, k8⟩ := u_known (C := RX8) (T := TX8) (N := 11) (n := 11) hg inw8 (hg _ (lwt1 (i := 32) (by decide +kernel) (by decide +kernel)))
  obtain ⟨c9, i9, k9⟩ := u_known (C := RX9) (T := TX9) (N := 5) (n := 5) hg inw9 (hg _ (lwt2 (i := 143) (by decide +kernel) (by decide +kernel)))
  obtain ⟨c10, i10, k10⟩ := u_known (C := RX10) (T := TX10) (N := 6) (n := 6) hg inw10 (hg _ (lwt2 (i := 25) (by decide +kernel) (by decide +kernel)))
  obtain ⟨c11, i11, k11⟩ := u_known (C := RX11) (T := TX11) (N := 18) (n := 18) hg inw11 (hg _ (lwt1 (i := 24) (by decide +kernel) (by decide +kernel)))
  obtain ⟨c12, i12, k12⟩ := u_known (C := RX12) (T := TX12) (N := 48) (n := 48) hg inw12 (hg _ (lwt5 (i := 234) (by decide +kernel) (by decide +kernel)))
  obtain ⟨tA, aA⟩ := arr_k (ty := .int) (by simp) (hg _ (lwt1 (i := 114) (by decide +kernel) (by decide +kernel)))
  obtain ⟨tB, aB⟩ := arr_k (ty := .byte) (by simp) (hg _ (lwt1 (i := 75) (by decide +kernel) (by decide +kernel)))
  obtain ⟨tF, aF⟩ := arr_k (ty := .float) (by simp) (hg _ (lwt2 (i := 52) (by decide +kernel) (by decide +kernel)))
  obtain ⟨tJ, aJ⟩ := arr_k (ty := .long) (by simp) (hg _ (lwt8 (i := 141) (by decide +kernel) (by decide +kernel)))
  refine ⟨(fun k => if k = 0 then c0 else if k = 1 then c1 else if k = 2 then c2 else if k = 3 then c3 else if k = 4 then c4 else if k = 5 then c5 else if k = 6 then c6 else if k = 7 then c7 else if k = 8 then c8 else if k = 9 then c9 else if k = 10 then c10 else if k = 11 then c11 else c12, fun k => if k = 0 then i0 else if k = 1 then i1 else if k = 2 then i2 else if k = 3 then i3 else if k = 4 then i4 else if k = 5 then i5 else if k = 6 then i6 else if k = 7 then i7 else if k = 8 then i8 else if k = 9 then i9 else if k = 10 then i10 else if k = 11 then i11 else i12), (tA, tB, tF, tJ), fun k q hq => ?_, fun k q hq => ?_⟩
  · match k, hq with
    | 0, hq => cases hq; exact k0
    | 1, hq => cases hq; exact k1
    | 2, hq => cases hq; exact k2
    | 3, hq => cases hq; exact k3
    | 4, hq => cases hq; exact k4
    | 5, hq => cases hq; exact k5
    | 6, hq => cases hq; exact k6
    | 7, hq => cases hq; exact k7
    | 8, hq => cases hq; exact k8
    | 9, hq => cases hq; exact k9
    | 10, hq => cases hq; exact k10
    | 11, hq => cases hq; exact k11
    | 12, hq => cases hq; exact k12
    | k + 13, hq => simp [vwCl] at hq
  · match k, hq with
    | 0, hq => cases hq; exact aA
    | 1, hq => cases hq; exact aB
    | 2, hq => cases hq; exact aF
    | 3, hq => cases hq; exact aJ
    | k + 4, hq => simp at hq
end KNOWN
