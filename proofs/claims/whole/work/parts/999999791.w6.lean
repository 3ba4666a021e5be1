theorem whole_start {p : Program} {e : Env} {s : State} {m : MethodId} {below : List Frame} {meth : Method} {c : Code} (l : Launch) (hflags : l.flags = flags0) {b L : Nat} {xs : Nat → Int32} (hL : L ≤ 3072) (C0 : lw_At p s m meth c b L xs) : W p l e room_1 s m #[Value.ref b] below meth c s.heap [] 0 0 (lw_Z below #[Value.ref b] s) (entryFrame m ([Value.ref b] : List Value).toArray 7) := by
  have hts := C0.2.2.2.2.2.1
  have hg : ∀ w ∈ lwg, w.before #[Value.ref b] s = true := fun w hw => hts w (List.mem_filter.mp hw).1
  obtain ⟨D, T, hK⟩ := known hg
  obtain ⟨lwa, hZ, hTt⟩ := pre_lw C0 (A := fun q : Nat => s.heap.size ≤ q) (fun q h1 h2 => Nat.not_lt.mpr h2 h1)
  have hNw : NW nestL s := fun w hw => by
    have q := hts w (List.mem_append_right _ (of_decide_eq_true (List.all_eq_true.mp nest_in w hw)))
    obtain ⟨a, i, x, h, rfl⟩ := nestL_ok w hw
    exact va_any rfl q
  obtain ⟨N, hN⟩ := big_is
  obtain ⟨σ1, σ2, hF1, hF2, HI⟩ := st_inv (N := N) hN
  have hl := lv_entry ([.ref b]) (n := 7) (Nat.le_of_ble_eq_true rfl)
  rw [lg_entry_eq]
  exact ws_start (g := (D, T, fun k => if k = 200 then lwa else 0)) l (hl0_of l hflags) hL C0 hg hK ⟨hZ, hTt⟩ hNw hN hF1 hF2 HI hl
