/-! the law's case of member -/
theorem st_member : Cond.static yL_member ∈ lwg := lwt5 (i := 143) (by decide +kernel) (by decide +kernel)
theorem in_law : Cond.initialized RL ∈ lwg := lwt1 (i := 0) (by decide +kernel) (by decide +kernel)
section CASE4
variable {p : Program} {l : Launch} {e : Env} {R : Room} {s U : State} {m : MethodId} {args : Array Value} {below : List Frame} {meth : Method} {c : Code} {cl sl nL pc : Nat} {Q : State → Prop} {g : Geo} {σ : Sto} {H : Heap} {locs : List Loc} {N b L : Nat} {D : Dk} {xs : Nat → Int32}
theorem InvD.upF {bk u : Nat} {Ds : Nat → Dk} {k : Nat} {j v : Int} (I : InvD σ bk D u Ds) (h : k ≠ 49) : InvD (upF σ k j v) bk D u Ds := by
  obtain ⟨i1, i2, i3, i4, i5, i6, i7, i8⟩ := I
  refine ⟨i1.cg3 (fun _ _ _ => rfl) (i1.2.2.2.2.1.cg (fun _ => rfl) (fun j' => ?_)), i2, i3, i4, i5, i6, i7, i8⟩
  show (if 49 = k ∧ j' = j then v else σ.2 49 j') = σ.2 49 j'
  rw [if_neg (fun z => h z.1.symm)]
theorem goodM : GoodIn lwg (va_wsS RL 39 yL_member (Cond.codeWith yL_member cL_member 5 (some .int) hhM :: lwg)) := by
  apply good_in
  intro w hw
  unfold va_wsS at hw
  rcases List.mem_append.mp hw with h | h
  · rcases List.mem_cons.mp h with rfl | h
    · exact wl_39
    rcases List.mem_cons.mp h with rfl | h
    · exact st_member
    rcases List.mem_cons.mp h with rfl | h
    · exact in_law
    · cases h
  · rcases List.mem_cons.mp h with rfl | h
    · exact cw_member
    · exact h
theorem lc_4 (hN : BigN N) (hl0 : l.stackTraces = false) (hnp : npo g = 114) (hE : ExW g s) (hNc : va_Nc NSE IOB s) (C : Cx p room_1 s m args c cl sl cL_law RL 7 g) (C1 : Cx p room_1 s m args c (cl + 1) (sl + 6) cL_law RL 7 g) (X : SX s g b L xs) {q : Nat} (hq : 6 * q + 5 < L) (hL : L ≤ 3072) (HI : INV σ) (ok : OK σ) (kk : ∀ σ2, INV σ2 → OK σ2 → At p l e room_1 s m args below meth c (cl + 1) (sl + 6) g 7 Q 1917 (lvL g b q) [] σ2) : At p l e room_1 s m args below meth c cl sl g 7 Q 400 (lvL g b q) [] σ := by
  obtain ⟨bk, D, u, Ds, I⟩ := HI
  have hv1 := inR_t (xs (6 * q + 1))
  have hv2 := inR_t (xs (6 * q + 2))
  refine at_aload_n (pc := 400) C 3 dL_law_400 rfl rfl ?_
  refine at_arg (pc := 401) (k := 6 * q + 1) C X dL_law_401 dL_law_402 dL_law_404 dL_law_405 dL_law_406 (by rw [ja_eq ⟨by omega, by omega⟩]; omega) (by omega) hL ?_
  refine at_arg (pc := 407) (k := 6 * q + 2) C X dL_law_407 dL_law_408 dL_law_410 dL_law_411 dL_law_412 (by rw [ja_eq ⟨by omega, by omega⟩]; omega) (by omega) hL ?_
  obtain ⟨v1, ev1⟩ : ∃ v, v = (xs (6 * q + 1)).toInt := ⟨_, rfl⟩
  obtain ⟨v2, ev2⟩ : ∃ v, v = (xs (6 * q + 2)).toInt := ⟨_, rfl⟩
  rw [← ev1] at hv1 ⊢
  rw [← ev2] at hv2 ⊢
  refine at_aload_n (pc := 413) C 1 dL_law_413 rfl rfl ?_
  intro H locs ls hP hS hl
  refine vx_calli (vx_runSX (hh := hhM) (As := [vr g 0, vi v1, vi v2, vr g 113]) (rest := []) ⟨C.1, C.2.1, C.2.2.1, C.2.2.2.1, C.2.2.2.2.1⟩ (l_member hN hl0 I.1 I.2.2.2.1 hv1 hv2 ok hnp H.size) (vx_cwSW 4 C.2.2.2.2.1 goodM rfl rfl rfl (by decide +kernel) ⟨Nat.le_of_ble_eq_true rfl, Nat.le_of_ble_eq_true rfl⟩) ⟨blindY g σ _ _, fun U hU hW => by
    obtain ⟨r0, r1⟩ := preX C hE hP hS [vr g 0, vi v1, vi v2, vr g 113] U hU hW
    exact ⟨r0, r1, va_Nc.moved hW.alike hNc⟩⟩ rfl rfl hl.1 rfl (lv_room (Nat.le_of_ble_eq_true rfl)) dL_law_414 C1.2.2.2.2.2.2.2.2) hS (fun q _ h => AA_sub hS q h) (AA_sub hS) (fun q _ h => AA_sub hS q h) (fun E ce q9 u t H1 locs1 ht hvm hpx _ _ _ _ _ _ _ => hpx.elim) (fun r u1 t H1 locs1 ht hvm hw hB hz hk hS1 => ?_)
  obtain ⟨rfl, hT, okM⟩ := hw
  rw [ht] at hB
  have IM : InvD (σM σ D v1 v2) bk D u Ds := by
    unfold σM
    by_cases z : rMemT D v1 v2 = 0
    · rw [if_pos z]; exact I.upF (by decide)
    · rw [if_neg z]; exact I
  have M113 : rMemT D v1 v2 = 0 → (σM σ D v1 v2).2 113 0 = rMemV D v1 v2 := fun z => by
    unfold σM
    rw [if_pos z]
    exact upF_same
  obtain ⟨r, σ', a1, a2, a3, a4, a5⟩ := m_member (N := N) hN I.2.2.2.1 IM.2.2.1 v1 v2
  have I' : INV σ' := ⟨bk, D, u, Ds, IM.same (XSame.ro IM.1 RO.rf) a2 a3⟩
  have S113 : σ'.2 113 0 = (σM σ D v1 v2).2 113 0 := (fr_X12_member a1).2 113 0 (by unfold Wr_X12_member; omega)
  suffices K : At p l e room_1 s m args below meth c (cl + 1) (sl + 6) g 7 Q 417 (lvL g b q) [vi (rMemT D v1 v2)] (σM σ D v1 v2) from K H1 locs1 ls hB hS1 hl
  refine at_istore (pc := 417) (lv' := (5, vi (rMemT D v1 v2)) :: lvL g b q) C1 dL_law_417 (by decide) rfl ?_
  refine at_aload_n (pc := 419) C1 3 dL_law_419 rfl rfl ?_
  refine at_aref (pc := 420) C1 5 dL_law_420 rfl rfl ?_
  refine at_iload (pc := 421) C1 1 dL_law_421 rfl ?_
  refine at_iconst (pc := 423) C1 dL_law_423 ?_
  refine at_iadd (pc := 424) C1 dL_law_424 ?_
  rw [ja_eq ⟨by omega, by omega⟩, show ((6 * q : Nat) : Int) + 1 = ((6 * q + 1 : Nat) : Int) by omega]
  refine at_sld (pc := 425) (k := 6 * q + 1) C1 X (by omega) hL dL_law_425 ?_
  refine at_aref (pc := 426) C1 5 dL_law_426 rfl rfl ?_
  refine at_iload (pc := 427) C1 1 dL_law_427 rfl ?_
  refine at_iconst (pc := 429) C1 dL_law_429 ?_
  refine at_iadd (pc := 430) C1 dL_law_430 ?_
  rw [ja_eq ⟨by omega, by omega⟩, show ((6 * q : Nat) : Int) + 2 = ((6 * q + 2 : Nat) : Int) by omega]
  refine at_sld (pc := 431) (k := 6 * q + 2) C1 X (by omega) hL dL_law_431 ?_
  rw [← ev1, ← ev2]
  refine at_callV (pc := 432) (ci := 12) C1 (c_X12_member l g N v1 v2 (σM σ D v1 v2) _ hv1 hv2 okM a1) kv_X12_member wl_44 kd94 rfl rfl rfl rfl (Nat.le_of_ble_eq_true rfl) ⟨rfl, rfl, Nat.le_of_ble_eq_true rfl, Nat.le_of_ble_eq_true rfl⟩ dL_law_432 (fun hr ok' => ?_)
  refine at_istore (pc := 435) (lv' := (6, vi r) :: (5, vi (rMemT D v1 v2)) :: lvL g b q) C1 dL_law_435 (by decide) rfl ?_
  refine at_aload_n (pc := 437) C1 4 dL_law_437 rfl rfl ?_
  refine at_callV (pc := 438) (ci := 12) C1 (c_X12_thrown l g N σ' _ ok' rfl) kv_X12_thrown wl_45 kd94 rfl rfl rfl rfl (Nat.le_of_ble_eq_true rfl) ⟨rfl, rfl, Nat.le_of_ble_eq_true rfl, Nat.le_of_ble_eq_true rfl⟩ dL_law_438 (fun h3 ok3 => ?_)
  refine at_iload (pc := 441) C1 1 dL_law_441 rfl ?_
  refine at_icmp_eq (pc := 443) (tgt := 448) C1 h3 hT dL_law_443 (by decide) (fun _ => ?_) (fun z => absurd a4 z)
  have out : At p l e room_1 s m args below meth c (cl + 1) (sl + 6) g 7 Q 465 ((6, vi r) :: (5, vi (rMemT D v1 v2)) :: lvL g b q) [] σ' := by
    refine at_goto (pc := 465) (tgt := 1917) C1 dL_law_465 (by decide) ?_
    intro H2 locs2 ls2 hP2 hS2 hl2
    exact kk σ' I' ok' H2 locs2 ls2 hP2 hS2 (lv_sub hl2 [2, 3, 4, 5, 6] rfl)
  refine at_iload (pc := 448) C1 1 dL_law_448 rfl ?_
  refine at_if_ne (pc := 450) (tgt := 465) C1 hT dL_law_450 (by decide) (fun _ => out) (fun z => ?_)
  refine at_aload_n (pc := 453) C1 3 dL_law_453 rfl rfl ?_
  refine at_iconst (pc := 454) C1 dL_law_454 ?_
  refine at_laload (pc := 455) (n := 1) C1 kd113 (by rw [hnp]; decide) ⟨by decide, by decide⟩ dL_law_455 ?_
  refine at_iload (pc := 456) C1 0 dL_law_456 rfl ?_
  refine at_i2l (pc := 458) C1 hr dL_law_458 ?_
  refine at_lcmp (pc := 459) C1 dL_law_459 ?_
  refine at_if_eq (pc := 460) (tgt := 465) C1 (jlcmp_R _ _) dL_law_460 (by decide) (fun _ => out) (fun y => ?_)
  have er : (r, σ').1 = σ'.2 113 0 := by rw [S113, M113 z]; exact a5 z
  rw [show σ'.2 113 0 = r from er.symm] at y
  exact absurd (jlcmp_same _) y
end CASE4
