/-! MEMBER of the class: it returns, or throws one of the two -/
def exL : List Cond := [.castable IOB IOB, .castable NSE NSE, .declares (Bundle.initS RTE), .declares (Bundle.initS EXC), .declares (Bundle.initS Bundle.tN)]
def ExW (g : Geo) (U : State) : Prop := (vx_Zq Bundle.tN "UNASSIGNED_STACK" Bundle.steD (AA g U.heap.size) U U.heap ∧ vx_Zq Bundle.tN "SUPPRESSED_SENTINEL" Bundle.listD (AA g U.heap.size) U U.heap) ∧ (∃ sa, vk_R RX11 146 "no such member" sa U) ∧ (∃ sa, vk_R RX11 162 "no such what" sa U) ∧ ∀ w ∈ exL, va_Nw w U
section MEMX
variable {p : Program} {l : Launch} {e : Env} {R : Room} {s U : State} {m : MethodId} {args : Array Value} {below : List Frame} {meth : Method} {c : Code} {g : Geo} {σ : Sto} {H : Heap} {locs : List Loc} {N b : Nat} {D : Dk} {v1 v2 : Int}
theorem exL_in {w : Cond} (h : w ∈ exL) : (∃ a b, w = .castable a b) ∨ ∃ x, w = .declares x := by
  simp only [exL, List.mem_cons, List.not_mem_nil, or_false] at h
  rcases h with rfl | rfl | rfl | rfl | rfl
  · exact Or.inl ⟨_, _, rfl⟩
  · exact Or.inl ⟨_, _, rfl⟩
  · exact Or.inr ⟨_, rfl⟩
  · exact Or.inr ⟨_, rfl⟩
  · exact Or.inr ⟨_, rfl⟩
theorem ExW.go (h : ExW g s) (hS : va_S (AA g s.heap.size) s.heap H locs) (hU : U.heap = H) (hW : s.WarmedH U.vm) : ExW g U := by
  subst hU
  obtain ⟨⟨h1, h2⟩, ⟨a, h3⟩, ⟨a', h4⟩, h5⟩ := h
  refine ⟨⟨((h1.kept hS.2.1).moved hW.alike).narrow (AA_sub hS), ((h2.kept hS.2.1).moved hW.alike).narrow (AA_sub hS)⟩, ⟨a, vk_R.warm hW h3⟩, ⟨a', vk_R.warm hW h4⟩, fun w hw => ?_⟩
  have q := h5 w hw
  rcases exL_in hw with ⟨x, y, rfl⟩ | ⟨x, rfl⟩
  · exact va_Nw.warmC hW q
  · exact va_tabs rfl (rfl : (s.setVm U.vm).vm = U.vm) (by rw [Cond.declares_setVm hW.alike]; exact q)
abbrev MxP (g : Geo) (σ : Sto) (av : List Value) (sz : Nat) : Array Value → State → Prop := va_Pc av (fun U => U.heap.size = sz ∧ Wld g σ U ∧ ExW g U)
theorem blindX (g : Geo) (σ : Sto) (av : List Value) (sz : Nat) : FrameBlind (MxP g σ av sz) := by
  intro a U g' mk q
  obtain ⟨q0, q1, ⟨qP, qK, qI, qL1, qL2⟩, ⟨e1, e2⟩, ⟨a1, e3⟩, ⟨a2, e4⟩, e5⟩ := q
  refine ⟨q0, q1, ⟨qP, va_K.moved (u := U) (U := U.calling g' mk a) (Vm.Alike.refl U.vm) qK, qI, va_Z.moved (u := U) (U := U.calling g' mk a) (Vm.Alike.refl U.vm) qL1, va_T.moved (u := U) (U := U.calling g' mk a) (Vm.Alike.refl U.vm) qL2⟩, ⟨vx_Zq.moved (u := U) (U := U.calling g' mk a) (Vm.Alike.refl U.vm) e1, vx_Zq.moved (u := U) (U := U.calling g' mk a) (Vm.Alike.refl U.vm) e2⟩, ⟨a1, vk_R.same (u := U) (U := U.calling g' mk a) rfl e3⟩, ⟨a2, vk_R.same (u := U) (U := U.calling g' mk a) rfl e4⟩, fun w hw => ?_⟩
  have q := e5 w hw
  rcases exL_in hw with ⟨x, y, rfl⟩ | ⟨x, rfl⟩
  · exact va_tabs rfl (rfl : U.vm = (U.calling g' mk a).vm) q
  · exact va_tabs rfl (rfl : U.vm = (U.calling g' mk a).vm) q
theorem fw_11_151' : FW RX11 151 0 1 := ⟨RX0, TX0, 14, rfl, by decide, inw0, lwt1 (i := 118) (by decide +kernel) rfl⟩
abbrev rm_mem : Room := { frames := 6, cells := 1, slots := 6, locals := 100 }
/-- how it may throw -/
abbrev XMem (g : Geo) (σ : Sto) (D : Dk) (v1 v2 : Int) (sz : Nat) : String → State → State → Prop := vx_X (fun _ : Unit => True) (fun E _ t => ((E = IOB ∧ rMemT D v1 v2 = 1) ∨ (E = NSE ∧ rMemT D v1 v2 = 2)) ∧ va_P g.1 vwCl (wd g σ) t.heap) (AA g sz)
theorem mx_in {L : List Cond} (h : (L.filter goodWord).all (fun w => decide (w ∈ tables_1_5 ++ tables_1_1)) = true) : ∀ w ∈ L.filter goodWord, w ∈ lwg := by
  intro w hw
  have q := of_decide_eq_true (List.all_eq_true.mp h w hw)
  have hg := (List.mem_filter.mp hw).2
  rcases List.mem_append.mp q with z | z
  · obtain ⟨i, hi⟩ := List.mem_iff_getElem?.mp z
    exact lwt5 (i := i) hi hg
  · obtain ⟨i, hi⟩ := List.mem_iff_getElem?.mp z
    exact lwt1 (i := i) hi hg
theorem x_member (hN : BigN N) (hl0 : l.stackTraces = false) (X : XC σ b D) (V : Val D) (h1 : inR v1) (h2 : inR v2) (ok : OK σ) (sz : Nat) : vx_Met l yX11_member (CW yX11_member cX11_member 3 (some .int)) rm_mem (MxP g σ [vr g 0, vi v1, vi v2] sz) (QI g sz (rMemV D v1 v2) σ (fun r => inR r ∧ rMemT D v1 v2 = 0)) (XMem g σ D v1 v2 sz) 1 6 (AA g sz) := by
  refine vx_ofW (cc := cX11_member) (maxL := 3) (ret := some .int) (by decide +kernel) rfl ?_
  intro p e s m args below meth c s₁ B hml ht hv
  obtain ⟨rfl, hsz, ⟨hP, hK, hI, hL⟩, hE⟩ := hv
  subst hsz
  have hts := atoms_spec (ws := CW yX11_member cX11_member 3 (some .int)) B.pre
  have ho : s.vm.findClass RX11 = some m.cls := findClass_of_methodNamed B.named
  have hr : meth.sig.returnType = some .int := B.returns
  have hlk : meth.locks = false := B.notSynchronized
  have hle := lv_entry [vr g 0, vi v1, vi v2] (n := 3) (Nat.le_of_ble_eq_true rfl)
  rw [lg_entry_eq]
  have C : Cx p rm_mem s m [vr g 0, vi v1, vi v2].toArray c 0 0 cX11_member RX11 3 g := ⟨B.exec, B.bytes, hml, ho, fun w hw => hts w (List.mem_cons_of_mem _ hw), hK, hI, hL, Nat.zero_le _, Nat.zero_le _⟩
  have C1 : Cx p rm_mem s m [vr g 0, vi v1, vi v2].toArray c 1 6 cX11_member RX11 3 g := ⟨B.exec, B.bytes, hml, ho, fun w hw => hts w (List.mem_cons_of_mem _ hw), hK, hI, hL, Nat.le_refl _, Nat.le_refl _⟩
  have eb : (σ.1 0 1).toNat = b := by rw [X.2.1]; omega
  have kb : knd b = (10, 14) := by rcases X.1 with rfl | rfl <;> rfl
  have BB := X.2.2.1
  -- its ends
  have ends : ∀ (pc : Nat) (lv : List (Nat × Value)) (r : Int), r = rMemV D v1 v2 → inR r → rMemT D v1 v2 = 0 → decode cX11_member pc = .ok (.ireturn, 1) → At p l e rm_mem s m [vr g 0, vi v1, vi v2].toArray below meth c 0 0 g 3 (vx_MQ below (QI g s.heap.size (rMemV D v1 v2) σ (fun r => inR r ∧ rMemT D v1 v2 = 0)) (XMem g σ D v1 v2 s.heap.size) [vr g 0, vi v1, vi v2].toArray s 1 6 (AA g s.heap.size)) pc lv [vi r] σ := fun pc lv r er hr1 hr2 hd H locs ls hP hS hl => by
    subst er
    refine W.widen (k := 1) (n := 6) (Nat.zero_le _) (Nat.zero_le _) (vx_ret ?_)
    exact W.iret C1.1 C1.2.1 hr (fun t ht hW => ⟨⟨Int32.ofInt (rMemV D v1 v2), (), rfl, ⟨rfl, ⟨hr1, hr2⟩, ok⟩, by show va_P g.1 vwCl (wd g σ) t.heap; rw [ht]; exact hP⟩, hS.F ht⟩) hS.2.2 hd hlk
  have xs : ∀ (E : String), ((E = IOB ∧ rMemT D v1 v2 = 1) ∨ (E = NSE ∧ rMemT D v1 v2 = 2)) → ∀ (H : Heap) (locs : List Loc), va_P g.1 vwCl (wd g σ) H → va_S (AA g s.heap.size) s.heap H locs → ∀ t : State, s.vm.Alike t.vm → H.size ≤ t.heap.size → (∀ q : Nat, q < H.size → t.heap[q]? = H[q]?) → XMem g σ D v1 v2 s.heap.size E s t := fun E hE H locs hP hS t _ hz hk => by
    refine ⟨(), trivial, ⟨hE, hP.kept (fun k q hq => ?_)⟩, Nat.le_trans hS.1 hz, fun q h1 h2 => ?_⟩
    · exact hk q.1 (vx_lt hP hq)
    · rw [hk q (Nat.lt_of_lt_of_le h1 hS.1)]; exact hS.2.1 q h1 h2
  suffices K : At p l e rm_mem s m [vr g 0, vi v1, vi v2].toArray below meth c 0 0 g 3 (vx_MQ below (QI g s.heap.size (rMemV D v1 v2) σ (fun r => inR r ∧ rMemT D v1 v2 = 0)) (XMem g σ D v1 v2 s.heap.size) [vr g 0, vi v1, vi v2].toArray s 1 6 (AA g s.heap.size)) 0 [(0, vr g 0), (1, vi v1), (2, vi v2)] [] σ from K s.heap [] _ hP va_S.rf hle
  refine at_aload_n (pc := 0) C 0 dX11_member_0 rfl rfl ?_
  refine at_getd (pc := 1) (jz := 1) (k2 := b) C fw_11_19 kd0 rfl (Nat.le_of_ble_eq_true rfl) rfl rfl eb dX11_member_1 ?_
  refine at_iload_n (pc := 4) C 1 dX11_member_4 rfl rfl ?_
  refine at_callV (pc := 5) (ci := 0) C (c_X0_hasMember l g N b v1 σ _ kb h1 ok (k_hasMember BB v1)) kv_X0_hasMember w724 kb rfl rfl rfl rfl (Nat.le_of_ble_eq_true rfl) ⟨rfl, rfl, (Nat.le_of_ble_eq_true rfl), (Nat.le_of_ble_eq_true rfl)⟩ dX11_member_5 (fun tq _ => ?_)
  refine at_if_ne (pc := 8) (tgt := 21) C (isB.r tq) dX11_member_8 rfl (fun z => ?_) (fun z => ?_)
  · have hm : 0 ≤ v1 ∧ v1 < dm D := by
      by_cases q : 0 ≤ v1 ∧ v1 < dm D
      · exact q
      · rw [if_neg q] at z; exact absurd rfl z
    have vz := V.sz
    have bm := BB.2.1 v1 hm.1 hm.2
    refine at_iload_n (pc := 21) C 2 dX11_member_21 rfl rfl ?_
    by_cases q0 : v2 = 0
    · refine at_tin (pc := 22) (off := 26) (tgt := 48) C dX11_member_22 h2 (by rw [q0]; decide) (by rw [q0]; decide) (by rw [q0]; rfl) rfl ?_
      refine at_aload_n (pc := 48) C 0 dX11_member_48 rfl rfl ?_
      refine at_getd (pc := 49) (jz := 1) (k2 := b) C fw_11_19 kd0 rfl (Nat.le_of_ble_eq_true rfl) rfl rfl eb dX11_member_49 ?_
      refine at_getr (pc := 52) C 2 fw_11_151' kb rfl (Nat.le_of_ble_eq_true rfl) rfl rfl dX11_member_52 ?_
      refine at_iload_n (pc := 55) C 1 dX11_member_55 rfl rfl ?_
      refine at_iaload (pc := 56) C (kf0_1 kb) ⟨hm.1, by omega⟩ dX11_member_56 ?_
      exact ends 57 _ _ (by rw [bm.2.1]; unfold rMemV; rw [if_pos q0]) (ok _ _) (by unfold rMemT; rw [if_pos hm, if_pos (by omega)]) dX11_member_57
    by_cases q1 : v2 = 1
    · refine at_tin (pc := 22) (off := 36) (tgt := 58) C dX11_member_22 h2 (by rw [q1]; decide) (by rw [q1]; decide) (by rw [q1]; rfl) rfl ?_
      refine at_aload_n (pc := 58) C 0 dX11_member_58 rfl rfl ?_
      refine at_getd (pc := 59) (jz := 1) (k2 := b) C fw_11_19 kd0 rfl (Nat.le_of_ble_eq_true rfl) rfl rfl eb dX11_member_59 ?_
      refine at_getr (pc := 62) C 3 fw_11_154 kb rfl (Nat.le_of_ble_eq_true rfl) rfl rfl dX11_member_62 ?_
      refine at_iload_n (pc := 65) C 1 dX11_member_65 rfl rfl ?_
      refine at_iaload (pc := 66) C (kf0_2 kb) ⟨hm.1, by omega⟩ dX11_member_66 ?_
      exact ends 67 _ _ (by rw [bm.2.2]; unfold rMemV; rw [if_neg q0, if_pos q1]) (ok _ _) (by unfold rMemT; rw [if_pos hm, if_pos (by omega)]) dX11_member_67
    by_cases q2 : v2 = 2
    · refine at_tin (pc := 22) (off := 46) (tgt := 68) C dX11_member_22 h2 (by rw [q2]; decide) (by rw [q2]; decide) (by rw [q2]; rfl) rfl ?_
      refine at_aload_n (pc := 68) C 0 dX11_member_68 rfl rfl ?_
      refine at_getd (pc := 69) (jz := 1) (k2 := b) C fw_11_19 kd0 rfl (Nat.le_of_ble_eq_true rfl) rfl rfl eb dX11_member_69 ?_
      refine at_iload_n (pc := 72) C 1 dX11_member_72 rfl rfl ?_
      refine at_callV (pc := 73) (ci := 0) C (c_X0_periodsOf l g N b v1 σ _ kb h1 ok (k_periodsOf hN V BB v1)) kv_X0_periodsOf w1120 kb rfl rfl rfl rfl (Nat.le_of_ble_eq_true rfl) ⟨rfl, rfl, (Nat.le_of_ble_eq_true rfl), (Nat.le_of_ble_eq_true rfl)⟩ dX11_member_73 (fun t2 _ => ?_)
      exact ends 76 _ _ (by unfold rMemV; rw [if_neg q0, if_neg q1]) t2 (by unfold rMemT; rw [if_pos hm, if_pos (by omega)]) dX11_member_76
    · refine at_tout (pc := 22) (tgt := 77) C h2 dX11_member_22 (by omega) rfl ?_
      intro H locs ls hP hS hl
      obtain ⟨⟨z1, z2⟩, -, ⟨sa, z3⟩, z4⟩ := hE
      exact ns_throwW (pc := 77) (own := RX11) (text := "no such what") (ik := 160) (is := 162) (ic := 164) (sa := sa) (A := AA g s.heap.size) C.1 C.2.1 hl0 ho (C.2.2.2.2.1 _ (lwt5 (i := 217) (by decide +kernel) (by decide +kernel))) (C.2.2.2.2.1 _ (lwt1 (i := 18) (by decide +kernel) (by decide +kernel))) z3
        (vx_hat (fun w hw => C.2.2.2.2.1 _ (mx_in mx_g2 w hw)) (fun w hw => of_decide_eq_true (List.all_eq_true.mp mx_n2 w hw)) (vx_c (va_any rfl (z4 _ (by simp [exL]))) (vx_c (va_any rfl (z4 _ (by simp [exL]))) (vx_c (va_any rfl (z4 _ (by simp [exL]))) (vx_c (va_any rfl (z4 _ (by simp [exL]))) vx_n)))))
        (fun w hw => List.all_eq_true.mp mx_o2 w hw) z1 z2 hS (by rw [hml]; exact hl.1) dX11_member_77 dX11_member_80 dX11_member_81 dX11_member_83 dX11_member_86 (fun x hx => (ht x hx).elim) (by decide) (by decide) (by decide) (by decide) hlk (xs NSE (Or.inr ⟨rfl, by unfold rMemT; rw [if_pos hm, if_neg (by omega)]⟩) H locs hP hS) hS.2.2 (Nat.le_refl _) (Nat.le_refl _)
  · have hm : ¬ (0 ≤ v1 ∧ v1 < dm D) := fun q => by rw [if_pos q] at z; exact absurd z (by decide)
    intro H locs ls hP hS hl
    obtain ⟨⟨z1, z2⟩, ⟨sa, z3⟩, -, z4⟩ := hE
    exact vx_throwS (pc := 11) (own := RX11) (cls := IOB) (names := upN) (text := "no such member") (ik := 144) (is := 146) (ic := 148) (sa := sa) (A := AA g s.heap.size) C.1 C.2.1 hl0 ho (by decide +kernel) (by decide +kernel) (C.2.2.2.2.1 _ (lwt5 (i := 151) (by decide +kernel) (by decide +kernel))) (C.2.2.2.2.1 _ (lwt1 (i := 17) (by decide +kernel) (by decide +kernel))) z3
      (vx_hat (fun w hw => C.2.2.2.2.1 _ (mx_in mx_g1 w hw)) (fun w hw => of_decide_eq_true (List.all_eq_true.mp mx_n1 w hw)) (vx_c (va_any rfl (z4 _ (by simp [exL]))) (vx_c (va_any rfl (z4 _ (by simp [exL]))) (vx_c (va_any rfl (z4 _ (by simp [exL]))) (vx_c (va_any rfl (z4 _ (by simp [exL]))) vx_n)))))
      (fun w hw => List.all_eq_true.mp mx_o1 w hw) z1 z2 hS (by rw [hml]; exact hl.1) dX11_member_11 dX11_member_14 dX11_member_15 dX11_member_17 dX11_member_20 (fun x hx => (ht x hx).elim) (by decide) (by decide) (by decide) (by decide) hlk (xs IOB (Or.inl ⟨rfl, by unfold rMemT; rw [if_neg hm]⟩) H locs hP hS) hS.2.2 (Nat.le_refl _) (Nat.le_refl _)
end MEMX
