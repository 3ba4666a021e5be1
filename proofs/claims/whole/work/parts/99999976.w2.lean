section WSC
variable {p : Program} {l : Launch} {e : Env} {s : State} {m : MethodId} {below : List Frame} {meth : Method} {c : Code} {b L N : Nat} {xs : Nat → Int32}
theorem ws_loop {k : Geo} {σ : Sto} (hl0 : l.stackTraces = false) (hL : L ≤ 3072) (C0 : lw_At p s m meth c b L xs) (hg : ∀ w ∈ lwg, w.before #[Value.ref b] s = true) (hN : BigN N) (HI : INV σ) (ok : OK σ) (knp : npo k = 114) (hIk : Inj k) (hKk : va_K k.1 vwCl (tysG k) s) (kfr : ∀ i, i < npo k → s.heap.size ≤ k.2.2 i) (hLk : LWF k (AA k s.heap.size) s s.heap) : At p l e room_1 s m #[Value.ref b] below meth c (200 + 0) (12000 + 6 * 0) k 7 (lw_Z below #[Value.ref b] s) 23 (lvL k b 0) [] σ := by
  have hAk : ∀ q : Nat, AA k s.heap.size q → s.heap.size ≤ q := fun q h => by
    rcases h with ⟨i, hi, rfl⟩ | h
    · exact kfr i hi
    · exact h
  obtain ⟨hE, hNc⟩ := pre_ex C0 (g := k) (fun q h1 h2 => absurd (hAk q h2) (Nat.not_le.mpr h1))
  obtain ⟨hx, hb, hr, hml, hown, hts, hX, hbl, hlocks, hgv⟩ := C0
  have hC : ∀ q, q ≤ 512 → Cx p room_1 s m #[Value.ref b] c (200 + q) (12000 + 6 * q) cL_law RL 7 k := fun q hq => ⟨hx, hb, hml, hown, hg, hKk, hIk, hLk, by show 200 + q ≤ 1140; omega, by show 12000 + 6 * q ≤ 18663; omega⟩
  have X : SX s k b L xs := ⟨hX, hbl, fun h => absurd (hAk b h) (Nat.not_le.mpr hbl)⟩
  exact law_loop hN (Drawn.sameBut.refl s.drawn lw_cs) hx hr hlocks hC X hL kfr (fun q σ hq HI ok kk => lc_4 hN hl0 knp hE hNc (hC q (by omega)) (hC (q + 1) (by omega)) X hq hL HI ok kk) 512 0 σ (by omega) (by omega) HI ok
end WSC
