section WSE
variable {p : Program} {l : Launch} {e : Env} {s : State} {m : MethodId} {below : List Frame} {meth : Method} {c : Code} {b L N : Nat} {xs : Nat → Int32}
theorem inv_01 {σ : Sto} (HI : INV σ) : (σ.1 0 1).toNat < 113 ∧ (σ.1 0 2).toNat < 113 := by
  obtain ⟨bk, D', u, Ds, I⟩ := HI
  have a1 := I.1.2.1
  have a2 := I.2.1
  have a3 := I.1.1
  omega
theorem ws_three {g g' : Geo} {a : Nat → Nat} {q1 : Nat} {σ : Sto} (hl0 : l.stackTraces = false) (hL : L ≤ 3072) (C0 : lw_At p s m meth c b L xs) (hg : ∀ w ∈ lwg, w.before #[Value.ref b] s = true) (hK : va_K g.1 vwCl (tysG g) s) (hLW : LWF g (fun q : Nat => s.heap.size ≤ q) s s.heap) (hN : BigN N) (HI : INV σ) {H : Heap} {locs : List Loc} {ls : Array Slot} (G : G12 g a q1 σ g') (hfr : ∀ k, k < 113 → s.heap.size ≤ g'.2.2 k) (hP : va_P g'.1 vwCl (wd g' σ) H) (hS : va_S (fun q : Nat => s.heap.size ≤ q) s.heap H locs) (hl : lv_has ls 7 [(2, .ref q1), (1, .ref (a 0)), (0, .ref b)]) : W p l e room_1 s m #[Value.ref b] below meth c H locs 113 10458 (lw_Z below #[Value.ref b] s) (F0 m 16 ls []) := by
  obtain ⟨f1, f2, fk, f94, f200, fnp, hI, ok2⟩ := G
  refine ws_row (g := g) (g' := g') (a := a) (q1 := q1) C0.1 C0.2.1 hg hK f2 hl (fun H1 ls e1 z1 o1 hl => ?_)
  have lt : ∀ i, i < 113 → g'.2.2 i < H.size := fun i hi => vx_lt hP (wd_at (g := g') (σ := σ) (k := i) (by rw [fnp]; exact hi))
  have hPk := kG_P fnp (inv_01 HI).1 (inv_01 HI).2 lt hP e1 o1
  have kfr := kG_fr (q := H.size) hfr hS.1
  have hIk := kG_inj (q := H.size) hI fnp lt
  have hl2 : lv_has ls 7 (lvL (kG g' H.size) b 0) := by
    show lv_has ls 7 [(4, vi ((6 * 0 : Nat) : Int)), (3, .ref ((kG g' H.size).2.2 113)), (2, .ref ((kG g' H.size).2.2 94)), (1, .ref ((kG g' H.size).2.2 0)), (0, .ref b)]
    rw [kG_113, kG_v g' H.size 94 (by decide), f94, kG_v g' H.size 0 (by decide), fk 0 (by decide)]
    exact hl
  have hKk : va_K (kG g' H.size).1 vwCl (tysG (kG g' H.size)) s := by
    show va_K g'.1 vwCl [(g'.2.1.1, .int), (g'.2.1.2.1, .byte), (g'.2.1.2.2.1, .float), (g'.2.1.2.2.2, .long)] s
    rw [f1, f2]
    exact hK
  have hAk : ∀ q : Nat, AA (kG g' H.size) s.heap.size q → s.heap.size ≤ q := fun q h => by
    rcases h with ⟨i, hi, rfl⟩ | h
    · exact kfr i hi
    · exact h
  have hSk : va_S (AA (kG g' H.size) s.heap.size) s.heap H1 locs := by
    refine ⟨Nat.le_trans hS.1 (by omega), fun q h1 h2 => ?_, fun z hz => Or.inr (hS.2.2 z hz)⟩
    rw [o1 q (Nat.lt_of_lt_of_le h1 hS.1)]
    exact hS.2.1 q h1 (fun h => absurd h1 (Nat.not_lt.mpr h))
  have hLk : LWF (kG g' H.size) (AA (kG g' H.size) s.heap.size) s s.heap := by
    unfold LWF
    rw [kG_200, f200]
    exact ⟨hLW.1.narrow hAk, hLW.2.narrow hAk⟩
  refine W.widen (k := 200 + 0) (n := 12000 + 6 * 0) (by decide) (by decide) ?_
  exact ws_loop hl0 hL C0 hg hN HI.z ok2 (kG_np g' H.size) hIk hKk kfr hLk H1 locs ls hPk hSk hl2
end WSE
