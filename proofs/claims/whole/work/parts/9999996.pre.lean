/-! .. and what the start gives it -/
section LPRE
variable {p : Program} {s : State} {m : MethodId} {meth : Method} {c : Code} {b L : Nat} {xs : Nat → Int32}
theorem pre_lw (C0 : lw_At p s m meth c b L xs) {A : Nat → Prop} (hA : ∀ q : Nat, q < s.heap.size → ¬ A q) : ∃ a : Nat, va_Z RX8 "LINE_WORDS" "[I" (.ref a) A s s.heap ∧ va_T .int a 7 (fun j : Nat => vi (lwd j)) A s s.heap := by
  obtain ⟨hx, hb, hr, hml, hown, hts, hX, hbl, hlocks, hgv⟩ := C0
  have hs := flat_of_before _ hgv
  obtain ⟨a, h1, h2⟩ := va_Tof (args := #[Value.ref b]) (s := s) (tm := .static RX8 "LINE_WORDS" "[I") (ty := .int) (N := 7) (f := fun j : Nat => vi (lwd j)) (A := A) (by decide) (hs _ (by decide +kernel)) (va_eqt (hs (.eq (.length (.static RX8 "LINE_WORDS" "[I")) (.int 7)) (by decide +kernel))) (fun j hj => by
    match j, hj with
    | 0, _ => exact va_eqt (hs (.eq (.elem (.static RX8 "LINE_WORDS" "[I") (.int 0)) (.int 441878706)) (by decide +kernel))
    | 1, _ => exact va_eqt (hs (.eq (.elem (.static RX8 "LINE_WORDS" "[I") (.int 1)) (.int 527911936)) (by decide +kernel))
    | 2, _ => exact va_eqt (hs (.eq (.elem (.static RX8 "LINE_WORDS" "[I") (.int 2)) (.int 542713316)) (by decide +kernel))
    | 3, _ => exact va_eqt (hs (.eq (.elem (.static RX8 "LINE_WORDS" "[I") (.int 3)) (.int 236590080)) (by decide +kernel))
    | 4, _ => exact va_eqt (hs (.eq (.elem (.static RX8 "LINE_WORDS" "[I") (.int 4)) (.int 556043424)) (by decide +kernel))
    | 5, _ => exact va_eqt (hs (.eq (.elem (.static RX8 "LINE_WORDS" "[I") (.int 5)) (.int 102320928)) (by decide +kernel))
    | 6, _ => exact va_eqt (hs (.eq (.elem (.static RX8 "LINE_WORDS" "[I") (.int 6)) (.int 642945024)) (by decide +kernel))
    | j + 7, hj => exact absurd hj (by omega)) hA
  exact ⟨a, va_Zof (hts _ (by decide +kernel)) (hts _ (by decide +kernel)) h1 hA, h2⟩
theorem pre_ex (C0 : lw_At p s m meth c b L xs) {g : Geo} (hA : ∀ q : Nat, q < s.heap.size → ¬ AA g s.heap.size q) : ExW g s ∧ va_Nc NSE IOB s := by
  obtain ⟨hx, hb, hr, hml, hown, hts, hX, hbl, hlocks, hgv⟩ := C0
  have hs := flat_of_before _ hgv
  refine ⟨⟨⟨vx_Zqof (args := #[Value.ref b]) (hts _ (by decide +kernel)) (hts _ (by decide +kernel)) (hs _ (by decide +kernel)) hA, vx_Zqof (args := #[Value.ref b]) (hts _ (by decide +kernel)) (hts _ (by decide +kernel)) (hs _ (by decide +kernel)) hA⟩, ?_, ?_, fun w hw => ?_⟩, va_Nc.of (args := #[Value.ref b]) (hs _ (by decide +kernel))⟩
  · obtain ⟨a, c, cell, k, q1, -⟩ := Cond.exactly_spec (hs (.exactly (.string RX11 146) "java/lang/String") (by decide +kernel))
    have h1 : (Cond.stringRef RX11 146 "no such member").before #[Value.ref b] s = true := hts _ (by decide +kernel)
    exact ⟨a, vk_R.of (A := #[Value.ref b]) h1 q1⟩
  · obtain ⟨a, c, cell, k, q1, -⟩ := Cond.exactly_spec (hs (.exactly (.string RX11 162) "java/lang/String") (by decide +kernel))
    have h1 : (Cond.stringRef RX11 162 "no such what").before #[Value.ref b] s = true := hts _ (by decide +kernel)
    exact ⟨a, vk_R.of (A := #[Value.ref b]) h1 q1⟩
  · simp only [exL, List.mem_cons, List.not_mem_nil, or_false] at hw
    rcases hw with rfl | rfl | rfl | rfl | rfl
    · have h : (Cond.castable IOB IOB).before #[Value.ref b] s = true := hts _ (by decide +kernel)
      exact va_any rfl h
    · have h : (Cond.castable NSE NSE).before #[Value.ref b] s = true := hts _ (by decide +kernel)
      exact va_any rfl h
    · have h : (Cond.declares (Bundle.initS RTE)).before #[Value.ref b] s = true := hts _ (by decide +kernel)
      exact va_any rfl h
    · have h : (Cond.declares (Bundle.initS EXC)).before #[Value.ref b] s = true := hts _ (by decide +kernel)
      exact va_any rfl h
    · have h : (Cond.declares (Bundle.initS Bundle.tN)).before #[Value.ref b] s = true := hts _ (by decide +kernel)
      exact va_any rfl h
end LPRE
