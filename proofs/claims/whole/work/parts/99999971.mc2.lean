/-! the model's constructor once more, saying of every place that it is one of the given or new -/
abbrev Q12n (g : Geo) (a : Nat → Nat) (h0 sz : Nat) (σ : Sto) : Array Value → State → Outcome → State → Prop := va_Qv (fun g' : Geo => G12 g a h0 σ g' ∧ ∀ k, k < 113 → va_A (w012 g a h0) sz (g'.2.2 k)) (fun g' t => va_P g'.1 vwCl (wd g' σ) t.heap) (va_A (w012 g a h0) sz)
set_option maxHeartbeats 4000000 in
set_option maxRecDepth 100000 in
theorem n_X12_in2 (l : Launch) (g : Geo) (a : Nat → Nat) (N : Nat) (σ1 σ2 : Sto) (ok0 : OK st0) (hF1 : F_X12_plain N st0 = some σ1) (hF2 : F_X12_keepText N σ1 = some σ2) (h0 sz : Nat) : Met l yX12_init (CW yX12_init cX12_init 1 none) rn_X12 (P12 g a h0 sz) (Q12n g a h0 sz σ2) 18 6471 (va_A (w012 g a h0) sz) := by
  refine Met.ofW (cc := cX12_init) (maxL := 1) (ret := none) (by decide +kernel) rfl ?_
  intro p e s m args below meth c s₁ B hml hv
  obtain ⟨rfl, hsz, hP, hD0, hK, hLW⟩ := hv
  subst hsz
  have hts := atoms_spec (ws := CW yX12_init cX12_init 1 none) B.pre
  have hown : s.vm.findClass RX12 = some m.cls := findClass_of_methodNamed B.named
  have hin : meth.name = yX12_init.name := (name_of_methodNamed B.named B.method).1
  have hl := lv_entry [.ref h0] (n := 1) (Nat.le_refl 1)
  rw [lg_entry_eq]
  have hr := B.returns
  have hlk := B.notSynchronized
  have hts' : ∀ w ∈ lwg, w.before ([Value.ref h0] : List Value).toArray s = true := fun w hw => hts w (List.mem_cons_of_mem _ hw)
  have C : Cc p s m ([Value.ref h0] : List Value).toArray meth c cX12_init RX12 1 g (va_A (w012 g a h0) s.heap.size) := ⟨B.exec, B.bytes, hml, hown, hts', hK, fun q h => Or.inr h, hin⟩
  have K : AtC p l e rn_X12 s m ([Value.ref h0] : List Value).toArray below meth c g (va_A (w012 g a h0) s.heap.size) 1 (MQ below (Q12n g a h0 s.heap.size σ2) ([Value.ref h0] : List Value).toArray s 18 6471 (va_A (w012 g a h0) s.heap.size)) 0 0 0 [(0, .ref h0)] [] (w012 g a h0) := by
    refine walk12 (flat11 g a) C (fun q1 q2 q3 q4 q5 q6 q7 q8 q9 q10 q11 q12 q13 q14 q15 q16 q17 q18 => ?_)
    intro H locs ls hP hD hS hl
    have hat := at12 g a h0 q1 q2 q3 q4 q5 q6 q7 q8 q9 q10 q11 q12 q13 q14 q15 q16 q17 q18
    have hD1 : va_D (va_A (w012 g a h0) s.heap.size) (m12 g h0 q1 q2 q3 q4 q5 q6 q7 q8 q9 q10 q11 q12 q13 q14 q15 q16 q17 q18 ++ flat11 g a) := hD
    have hP0 : va_P g.1 vwCl (m12 g h0 q1 q2 q3 q4 q5 q6 q7 q8 q9 q10 q11 q12 q13 q14 q15 q16 q17 q18 ++ flat11 g a) H := hP
    obtain ⟨g', hg'⟩ : ∃ g' : Geo, g' = g12 g a h0 q1 q2 q3 q4 q5 q6 q7 q8 q9 q10 q11 q12 q13 q14 q15 q16 q17 q18 := ⟨_, rfl⟩
    rw [← hg'] at hat
    have f1 : g'.1 = g.1 := by rw [hg']
    have f2 : g'.2.1 = g.2.1 := by rw [hg']
    have f94 : g'.2.2 94 = h0 := by rw [hg']; rfl
    have f2h : g'.2.2 200 = g.2.2 200 := by rw [hg']; rfl
    have fnp : npo g' = 113 := by rw [hg']; rfl
    have fk : ∀ k, k < 94 → g'.2.2 k = a k := by
      intro k hk
      rw [hg']
      exact if_pos hk
    have hI : Inj g' := by
      refine ⟨by omega, fun i j hi hj e0 => ?_⟩
      have z := hD1.1 (pidx i) (pidx j) _ _ (hat i (by omega)) (hat j (by omega)) e0
      simp only [pidx] at z
      split at z <;> split at z <;> omega
    have hP' : va_P g'.1 vwCl (wd g' st0) H := by
      rw [f1]
      apply va_P_mem.mpr
      intro q hq
      obtain ⟨k, hk, rfl⟩ := List.mem_map.mp hq
      have hk := List.mem_range.mp hk
      exact hP0 _ _ (hat k (by omega))
    have hAA : AA g' s.heap.size = va_A (w012 g a h0) s.heap.size := by
      funext q
      apply propext
      constructor
      · rintro (⟨k, hk, rfl⟩ | h)
        · exact hD1.2 _ _ (hat k (by omega))
        · exact Or.inr h
      · rintro (⟨k, e0, h⟩ | h)
        · cases k with
          | zero =>
            cases h
            exact Or.inl ⟨94, by omega, f94.symm⟩
          | succ i =>
            have h : (flat11 g a)[i]? = some (q, e0) := h
            have hi : i < 94 := (List.getElem?_eq_some_iff.mp h).1
            have h2 := hat i (by omega)
            rw [show pidx i = i + 19 from if_pos hi] at h2
            have h3 : (flat11 g a)[i]? = some (g'.2.2 i, cellE g' st0 i) := by
              rw [List.getElem?_append_right (by exact Nat.le_add_left 19 i)] at h2
              exact (congrArg (fun z => (flat11 g a)[z]?) (show i = i + 19 - 19 by omega)).trans h2
            have h4 := h.symm.trans h3
            exact Or.inl ⟨i, by omega, congrArg (fun z => z.1) (Option.some.inj h4)⟩
        · exact Or.inr h
    have hK' : va_K g'.1 vwCl (tysG g') s := by rw [hg']; exact hK
    have hL' : LWF g' (AA g' s.heap.size) s s.heap := by
      rw [hAA]
      unfold LWF
      rw [f2h]
      exact hLW
    have C' : Cx p rn_X12 s m ([Value.ref h0] : List Value).toArray c 18 6471 cX12_init RX12 1 g' := ⟨B.exec, B.bytes, hml, hown, hts', hK', hI, hL', Nat.le_refl _, Nat.le_refl _⟩
    have K2 : At p l e rn_X12 s m ([Value.ref h0] : List Value).toArray below meth c 18 6471 g' 1 (MQ below (Q12n g a h0 s.heap.size σ2) ([Value.ref h0] : List Value).toArray s 18 6471 (va_A (w012 g a h0) s.heap.size)) 446 [(0, vr g' 94)] [] st0 := by
      refine at_aload_n (pc := 446) C' 0 dX12_init_446 rfl rfl ?_
      refine at_callVv (pc := 447) (ci := 12) C' (c_X12_plain l g' N st0 σ1 ok0 hF1) kv_X12_plain wm_75 kd94 rfl rfl rfl rfl (Nat.le_of_ble_eq_true rfl) ⟨rfl, rfl, Nat.le_of_ble_eq_true rfl, Nat.le_of_ble_eq_true rfl⟩ dX12_init_447 (fun ok1 => ?_)
      refine at_aload_n (pc := 450) C' 0 dX12_init_450 rfl rfl ?_
      refine at_callVv (pc := 451) (ci := 12) C' (c_X12_keepText l g' N σ1 σ2 ok1 hF2) kv_X12_keepText wm_78 kd94 rfl rfl rfl rfl (Nat.le_of_ble_eq_true rfl) ⟨rfl, rfl, Nat.le_of_ble_eq_true rfl, Nat.le_of_ble_eq_true rfl⟩ dX12_init_451 (fun ok2 => ?_)
      intro H locs ls hP hS hl
      rw [hAA] at hS
      exact W.vret C'.1 C'.2.1 hr (fun t ht hW => ⟨⟨g', rfl, ⟨⟨f1, f2, fk, f94, f2h, fnp, hI, ok2⟩, fun k hk => by rw [← hAA]; exact Or.inl ⟨k, by rw [fnp]; exact hk, rfl⟩⟩, by show va_P g'.1 vwCl (wd g' σ2) t.heap; rw [ht]; exact hP⟩, hS.F ht⟩) hS.2.2 dX12_init_454 hlk
    exact K2 H locs ls hP' (by rw [hAA]; exact hS) (by rw [show vr g' 94 = Value.ref h0 from congrArg Value.ref f94]; exact hl)
  exact K s.heap [] _ hP (va_D.self hD0) va_S.rf hl
