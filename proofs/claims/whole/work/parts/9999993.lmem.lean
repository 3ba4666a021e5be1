/-! the law's own member: it catches both -/
def hhM : List (Nat × Nat × Nat × Nat) := [(0, 10, 13, 13), (0, 10, 17, 15)]
theorem kv_X11_member : KV RX11 yX11_member cX11_member 3 (some .int) 2 := ⟨by decide +kernel, lwt5 (i := 150) (by decide +kernel) (by decide +kernel), lwt5 (i := 148) (by decide +kernel) (by decide +kernel), lwt5 (i := 149) (by decide +kernel) (by decide +kernel), lwt1 (i := 1) (by decide +kernel) (by decide +kernel)⟩
theorem wl_39 : Cond.methodLink RL 39 yL_member ∈ lwg := lwt5 (i := 142) (by decide +kernel) (by decide +kernel)
theorem cw_member : Cond.codeWith yL_member cL_member 5 (some .int) hhM ∈ lwg := lwt5 (i := 144) (by decide +kernel) (by decide +kernel)
section LMEM
variable {p : Program} {l : Launch} {e : Env} {R : Room} {s U : State} {m : MethodId} {args : Array Value} {below : List Frame} {meth : Method} {c : Code} {cl sl nL pc : Nat} {cc : ByteArray} {own : String} {lv : List (Nat × Value)} {st : List Value} {Q : State → Prop} {g : Geo} {σ : Sto} {H : Heap} {locs : List Loc} {N b : Nat} {D : Dk} {v1 v2 : Int}
theorem upd_upL {k : Nat} {i v : Int} (hi : 0 ≤ i) : vp_updL (fun j : Nat => Int64.ofInt (σ.2 k j)) i.toNat (Int64.ofInt v) = fun j : Nat => Int64.ofInt ((upF σ k i v).2 k j) := by
  funext j
  show (if j = i.toNat then _ else _) = Int64.ofInt (if k = k ∧ (j : Int) = i then v else σ.2 k j)
  by_cases h : j = i.toNat
  · rw [if_pos h, if_pos ⟨rfl, by omega⟩]
  · rw [if_neg h, if_neg (fun z => h (by omega))]
theorem at_lastore (C : Cx p R s m args c cl sl cc own nL g) {k n : Nat} {i v : Int} (hk : knd k = (3, n)) (hkn : k < npo g) (hi : 0 ≤ i ∧ i < n) (hd : decode cc pc = .ok (.lastore, 1)) (kk : At p l e R s m args below meth c cl sl g nL Q (pc + 1) lv st (upF σ k i v)) : At p l e R s m args below meth c cl sl g nL Q pc lv (vl v :: vi i :: vr g k :: st) σ := by
  intro H locs ls hP hS hl
  have e0 := wd_at (g := g) (σ := σ) hkn
  rw [cell_l hk] at e0
  refine va_last C.1 C.2.1 C.2.2.2.2.2.1 hP (wd_D C.2.2.2.2.2.2.1) hS k 3 e0 rfl (vpin hi (knd_n hk)) hd (fun H1 locs1 hP1 _ hS1 => ?_)
  rw [clampI hi (knd_n hk), upd_upL hi.1, ← cell_l hk, wd_set upF_other] at hP1
  exact kk H1 locs1 ls hP1 hS1 hl
theorem at_laload (C : Cx p R s m args c cl sl cc own nL g) {k n : Nat} {i : Int} (hk : knd k = (3, n)) (hkn : k < npo g) (hi : 0 ≤ i ∧ i < n) (hd : decode cc pc = .ok (.laload, 1)) (kk : At p l e R s m args below meth c cl sl g nL Q (pc + 1) lv (vl (σ.2 k i) :: st) σ) : At p l e R s m args below meth c cl sl g nL Q pc lv (vi i :: vr g k :: st) σ := by
  intro H locs ls hP hS hl
  have e0 := wd_at (g := g) (σ := σ) hkn
  rw [cell_l hk] at e0
  refine va_lald C.1 C.2.1 C.2.2.2.2.2.1 hP k 3 e0 rfl (vpin hi (knd_n hk)) hd ?_
  show W p l e R s m args below meth c H locs cl sl Q (F0 m (pc + 1) ls (.long (Int64.ofInt (σ.2 k (((Int32.ofInt i).toNatClampNeg : Nat) : Int))) :: st))
  rw [clampI hi (knd_n hk), Int.toNat_of_nonneg hi.1]
  exact kk H locs ls hP hS hl
abbrev MyP (g : Geo) (σ : Sto) (av : List Value) (sz : Nat) : Array Value → State → Prop := va_Pc av (fun U => (U.heap.size = sz ∧ Wld g σ U ∧ ExW g U) ∧ va_Nc NSE IOB U)
theorem blindY (g : Geo) (σ : Sto) (av : List Value) (sz : Nat) : FrameBlind (MyP g σ av sz) := by
  intro a U g' mk q
  obtain ⟨q0, q1, q2⟩ := q
  obtain ⟨r0, r1⟩ := blindX g σ av sz a U g' mk ⟨q0, q1⟩
  exact ⟨r0, r1, va_Nc.moved (u := U) (U := U.calling g' mk a) (Vm.Alike.refl U.vm) q2⟩
theorem preX (C : Cx p R s m args c cl sl cc own nL g) (hE : ExW g s) (hP : va_P g.1 vwCl (wd g σ) H) (hS : va_S (AA g s.heap.size) s.heap H locs) (av : List Value) : ∀ U : State, U.heap = H → s.WarmedH U.vm → MxP g σ av H.size av.toArray U := by
  intro U hU hW
  obtain ⟨r0, r1, r2⟩ := preU C hP hS av U hU hW
  exact ⟨r0, r1, r2, hE.go hS hU hW⟩
abbrev rm_lm : Room := { frames := 8, cells := 1, slots := 6, locals := 140 }
def σM (σ : Sto) (D : Dk) (v1 v2 : Int) : Sto := if rMemT D v1 v2 = 0 then upF σ 113 0 (rMemV D v1 v2) else σ
theorem l_member (hN : BigN N) (hl0 : l.stackTraces = false) (X : XC σ b D) (V : Val D) (h1 : inR v1) (h2 : inR v2) (ok : OK σ) (hnp : npo g = 114) (sz : Nat) : vx_Met l yL_member (Cond.codeWith yL_member cL_member 5 (some .int) hhM :: lwg) rm_lm (MyP g σ [vr g 0, vi v1, vi v2, vr g 113] sz) (QI g sz (rMemT D v1 v2) (σM σ D v1 v2) inR) (vx_X (fun _ : Unit => False) (fun _ _ _ => False) (AA g sz)) 1 6 (AA g sz) := by
  refine vx_ofWH (cc := cL_member) (maxL := 5) (ret := some .int) (hh := hhM) (by decide +kernel) rfl ?_
  intro p e s m args below meth c s₁ B hml hv
  obtain ⟨rfl, ⟨hsz, ⟨hP, hK, hI, hL⟩, hE⟩, hNc⟩ := hv
  subst hsz
  have hts := atoms_spec (ws := Cond.codeWith yL_member cL_member 5 (some .int) hhM :: lwg) B.pre
  have ho : s.vm.findClass RL = some m.cls := findClass_of_methodNamed B.named
  have hr : meth.sig.returnType = some .int := B.returns
  have hlk : meth.locks = false := B.notSynchronized
  have htab : c.exceptionTable.toList = tableOf hhM := vx_table (x := yL_member) B (hts _ List.mem_cons_self)
  have hle := lv_entry [vr g 0, vi v1, vi v2, vr g 113] (n := 5) (Nat.le_of_ble_eq_true rfl)
  rw [lg_entry_eq]
  have C : Cx p rm_lm s m [vr g 0, vi v1, vi v2, vr g 113].toArray c 0 0 cL_member RL 5 g := ⟨B.exec, B.bytes, hml, ho, fun w hw => hts w (List.mem_cons_of_mem _ hw), hK, hI, hL, Nat.zero_le _, Nat.zero_le _⟩
  have C1 : Cx p rm_lm s m [vr g 0, vi v1, vi v2, vr g 113].toArray c 1 6 cL_member RL 5 g := ⟨B.exec, B.bytes, hml, ho, fun w hw => hts w (List.mem_cons_of_mem _ hw), hK, hI, hL, Nat.le_refl _, Nat.le_refl _⟩
  suffices K : At p l e rm_lm s m [vr g 0, vi v1, vi v2, vr g 113].toArray below meth c 0 0 g 5 (vx_MQ below (QI g s.heap.size (rMemT D v1 v2) (σM σ D v1 v2) inR) (vx_X (fun _ : Unit => False) (fun _ _ _ => False) (AA g s.heap.size)) [vr g 0, vi v1, vi v2, vr g 113].toArray s 1 6 (AA g s.heap.size)) 0 [(0, vr g 0), (1, vi v1), (2, vi v2), (3, vr g 113)] [] σ from K s.heap [] _ hP va_S.rf hle
  have ends : ∀ (pc : Nat) (lv : List (Nat × Value)) (τ : Sto) (r : Int), τ = σM σ D v1 v2 → r = rMemT D v1 v2 → inR r → OK τ → decode cL_member pc = .ok (.ireturn, 1) → At p l e rm_lm s m [vr g 0, vi v1, vi v2, vr g 113].toArray below meth c 1 6 g 5 (vx_MQ below (QI g s.heap.size (rMemT D v1 v2) (σM σ D v1 v2) inR) (vx_X (fun _ : Unit => False) (fun _ _ _ => False) (AA g s.heap.size)) [vr g 0, vi v1, vi v2, vr g 113].toArray s 1 6 (AA g s.heap.size)) pc lv [vi r] τ := fun pc lv τ r et er hr1 okt hd H locs ls hP hS hl => by
    subst et; subst er
    refine vx_ret ?_
    exact W.iret C1.1 C1.2.1 hr (fun t ht hW => ⟨⟨Int32.ofInt (rMemT D v1 v2), (), rfl, ⟨rfl, hr1, okt⟩, by show va_P g.1 vwCl (wd g (σM σ D v1 v2)) t.heap; rw [ht]; exact hP⟩, hS.F ht⟩) hS.2.2 hd hlk
  refine at_aload_n (pc := 0) C 3 dL_member_0 rfl rfl ?_
  refine at_iconst (pc := 1) C dL_member_1 ?_
  refine at_aload_n (pc := 2) C 0 dL_member_2 rfl rfl ?_
  refine at_iload_n (pc := 3) C 1 dL_member_3 rfl rfl ?_
  refine at_iload_n (pc := 4) C 2 dL_member_4 rfl rfl ?_
  intro H locs ls hP hS hl
  refine vx_calli (vx_runV (As := [vi v1, vi v2]) (rest := [vi 0, vr g 113]) ⟨C.1, C.2.1, C.2.2.1, C.2.2.2.1, C.2.2.2.2.1⟩ (x_member hN hl0 X V h1 h2 ok H.size) (cwV 2 C.2.2.2.2.1 (goodV kv_X11_member wl_7) rfl rfl rfl kv_X11_member.1 ⟨Nat.le_of_ble_eq_true rfl, Nat.le_of_ble_eq_true rfl⟩) ⟨blindX g σ _ _, rcv (ci := 11) C hP kd0 rfl rfl, preX C hE hP hS _⟩ rfl rfl hl.1 rfl (lv_room (Nat.le_of_ble_eq_true rfl)) dL_member_5 ⟨Nat.le_refl _, Nat.le_refl _⟩) hS (fun q _ h => AA_sub hS q h) (AA_sub hS) (fun q _ h => AA_sub hS q h) (fun E ce q9 u t H1 locs1 ht hvm hpx hBX hz hk hS1 hce hcv hcl => ?_) (fun r u t H1 locs1 ht hvm hw hB hz hk hS1 => ?_)
  · obtain ⟨hE2, hP1⟩ := hBX
    rw [ht] at hP1
    have fin : ∀ (pc : Nat) (k : Int), inR k → k = rMemT D v1 v2 → rMemT D v1 v2 ≠ 0 → decode cL_member pc = .ok (.astore 4, 2) → decode cL_member (pc + 2) = .ok (.iconst k, 1) → decode cL_member (pc + 3) = .ok (.ireturn, 1) → W p l e rm_lm s m [vr g 0, vi v1, vi v2, vr g 113].toArray below meth c H1 locs1 (0 + 1) (0 + 6) (vx_MQ below (QI g s.heap.size (rMemT D v1 v2) (σM σ D v1 v2) inR) (vx_X (fun _ : Unit => False) (fun _ _ _ => False) (AA g s.heap.size)) [vr g 0, vi v1, vi v2, vr g 113].toArray s 1 6 (AA g s.heap.size)) (F0 m pc ls [.ref q9]) := fun pc k hk1 hk2 hk3 d1 d2 d3 => by
      refine lv_astore C1.1 C1.2.1 d1 hl (by decide) rfl (fun ls' hl' => ?_)
      refine lv_iconst C1.1 C1.2.1 d2 rfl ?_
      exact ends (pc + 3) _ σ k (by unfold σM; rw [if_neg hk3]) hk2 hk1 ok d3 H1 locs1 ls' hP1 hS1 hl'
    have hcast : ∀ w ∈ exL, w.before [vr g 0, vi v1, vi v2, vr g 113].toArray s = true := fun w hw => by
      rcases exL_in hw with ⟨x, y, rfl⟩ | ⟨x, rfl⟩
      · exact va_any rfl (hE.2.2.2 _ hw)
      · exact va_any rfl (hE.2.2.2 _ hw)
    rcases hE2 with ⟨rfl, hT⟩ | ⟨rfl, hT⟩
    · refine vx_catch (own := RL) (name := IOB) ho [] ⟨0, 10, 13, 13⟩ [⟨0, 10, 17, 15⟩] htab (fun z hz => by cases hz) (by decide) (by decide) (C.2.2.2.2.1 _ (lwt5 (i := 145) (by decide +kernel) (by decide +kernel))) (hcast _ (by simp [exL])) hce hcv hcl ?_
      exact fin 13 1 ⟨by decide, by decide⟩ hT.symm (by rw [hT]; decide) dL_member_13 dL_member_15 dL_member_16
    · refine vx_catch (own := RL) (name := NSE) ho [⟨0, 10, 13, 13⟩] ⟨0, 10, 17, 15⟩ [] htab (fun z hz => ?_) (by decide) (by decide) (C.2.2.2.2.1 _ (lwt5 (i := 146) (by decide +kernel) (by decide +kernel))) (hcast _ (by simp [exL])) hce hcv hcl ?_
      · rcases List.mem_cons.mp hz with rfl | hz
        · exact Or.inr ⟨by decide, IOB, C.2.2.2.2.1 _ (lwt5 (i := 145) (by decide +kernel) (by decide +kernel)), hNc⟩
        · cases hz
      · exact fin 17 2 ⟨by decide, by decide⟩ hT.symm (by rw [hT]; decide) dL_member_17 dL_member_19 dL_member_20
  · obtain ⟨rfl, ⟨hT1, hT2⟩, hok⟩ := hw
    rw [ht] at hB
    suffices K : At p l e rm_lm s m [vr g 0, vi v1, vi v2, vr g 113].toArray below meth c 1 6 g 5 (vx_MQ below (QI g s.heap.size (rMemT D v1 v2) (σM σ D v1 v2) inR) (vx_X (fun _ : Unit => False) (fun _ _ _ => False) (AA g s.heap.size)) [vr g 0, vi v1, vi v2, vr g 113].toArray s 1 6 (AA g s.heap.size)) 8 [(0, vr g 0), (1, vi v1), (2, vi v2), (3, vr g 113)] [vi (rMemV D v1 v2), vi 0, vr g 113] σ from K H1 locs1 ls hB hS1 hl
    refine at_i2l (pc := 8) C1 hT1 dL_member_8 ?_
    refine at_lastore (pc := 9) (n := 1) C1 kd113 (by rw [hnp]; decide) ⟨by decide, by decide⟩ dL_member_9 ?_
    refine at_goto (pc := 10) (tgt := 21) C1 dL_member_10 (by decide) ?_
    refine at_iconst (pc := 21) C1 dL_member_21 ?_
    exact ends 22 _ _ 0 (by unfold σM; rw [if_pos hT2]) hT2.symm ⟨by decide, by decide⟩ ok dL_member_22
end LMEM
