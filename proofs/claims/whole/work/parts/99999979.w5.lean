theorem hl0_of (l : Launch) (hflags : l.flags = flags0) : l.stackTraces = false := by
  unfold Launch.stackTraces
  rw [hflags]
  decide +kernel
theorem ws_start {p : Program} {e : Env} {s : State} {m : MethodId} {below : List Frame} {meth : Method} {c : Code} (l : Launch) {b L N : Nat} {xs : Nat → Int32} {σ1 σ2 : Sto} {g : Geo} (hl0 : l.stackTraces = false) (hL : L ≤ 3072) (C0 : lw_At p s m meth c b L xs) (hg : ∀ w ∈ lwg, w.before #[Value.ref b] s = true) (hK : va_K g.1 vwCl (tysG g) s) (hLW : LWF g (fun q : Nat => s.heap.size ≤ q) s s.heap) (hNw : NW nestL s) (hN : BigN N) (hF1 : F_X12_plain N st0 = some σ1) (hF2 : F_X12_keepText N σ1 = some σ2) (HI : INV σ2) {ls : Array Slot} (hl : lv_has ls 7 [(0, .ref b)]) : W p l e room_1 s m #[Value.ref b] below meth c s.heap [] 0 0 (lw_Z below #[Value.ref b] s) (F0 m 0 ls []) := by
  refine ws_one (g := g) C0.1 C0.2.1 C0.2.2.2.1 C0.2.2.2.2.1 hg hK hNw hl (fun a H locs ls hP hD hS hl => ?_)
  refine ws_two (g := g) (N := N) ok_st0 hF1 hF2 C0.1 C0.2.1 C0.2.2.2.1 C0.2.2.2.2.1 hg hK hLW hP hD hS hl (fun q1 g' H locs ls G hfr hP hS hl => ?_)
  exact ws_three hl0 hL C0 hg hK hLW hN HI G hfr hP hS hl
