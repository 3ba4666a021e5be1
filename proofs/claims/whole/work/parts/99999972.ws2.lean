/-! .. and the model's object -/
section WSB
variable {p : Program} {l : Launch} {e : Env} {s : State} {m : MethodId} {below : List Frame} {meth : Method} {c : Code} {b L N : Nat} {xs : Nat → Int32} {Q : State → Prop} {σ1 σ2 : Sto}
theorem ws_two {g : Geo} {a : Nat → Nat} (ok0 : OK st0) (hF1 : F_X12_plain N st0 = some σ1) (hF2 : F_X12_keepText N σ1 = some σ2) (hx : p.tables.exec = Jvm.exec) (hb : c.code = cL_law) (hml : c.maxLocals = 7) (hown : s.vm.findClass RL = some m.cls) (hg : ∀ w ∈ lwg, w.before #[Value.ref b] s = true) (hK : va_K g.1 vwCl (tysG g) s) (hLW : LWF g (fun q : Nat => s.heap.size ≤ q) s s.heap) {H : Heap} {locs : List Loc} {ls : Array Slot} (hP : va_P g.1 vwCl (flat11 g a) H) (hD : va_D (fun q : Nat => s.heap.size ≤ q) (flat11 g a)) (hS : va_S (fun q : Nat => s.heap.size ≤ q) s.heap H locs) (hl : lv_has ls 7 [(1, .ref (a 0)), (0, .ref b)])
    (kk : ∀ (q1 : Nat) (g' : Geo) (H : Heap) (locs : List Loc) (ls : Array Slot), G12 g a q1 σ2 g' → (∀ k, k < 113 → s.heap.size ≤ g'.2.2 k) → va_P g'.1 vwCl (wd g' σ2) H → va_S (fun q : Nat => s.heap.size ≤ q) s.heap H locs → lv_has ls 7 [(2, .ref q1), (1, .ref (a 0)), (0, .ref b)] → W p l e room_1 s m #[Value.ref b] below meth c H locs (94 + 1 + 18) (3939 + 48 + 6471) Q (F0 m 16 ls [])) : W p l e room_1 s m #[Value.ref b] below meth c H locs 94 3939 Q (F0 m 8 ls []) := by
  have hA : ∀ q : Nat, s.heap.size ≤ q → (fun q : Nat => s.heap.size ≤ q) q := fun _ h => h
  obtain ⟨Cn, T, ty, f1, f2, f3, f4, f5, f6, f7⟩ := fn_L18
  refine va_new hx hb hg f2 ty f3 hown (hg _ f4) (hg _ f5) (hg _ f6) hK hP hD hS hA f1 f7 (Nat.le_of_ble_eq_true rfl) (Nat.le_of_ble_eq_true rfl) dL_law_8 (fun q1 H hP hD hS => ?_)
  generalize hF : flat11 g a = F at hP hD
  have hPw : va_P g.1 vwCl ([(q1, .inr (12, df12))] ++ F) H := fun k q hk => by
    rcases List.mem_append.mp (List.mem_of_getElem? hk) with h | h
    · obtain ⟨i, hi⟩ := List.mem_iff_getElem?.mp (List.mem_append_right F h)
      exact hP i q hi
    · obtain ⟨i, hi⟩ := List.mem_iff_getElem?.mp (List.mem_append_left [(q1, .inr (12, df12))] h)
      exact hP i q hi
  have hx1 : (F ++ [(q1, .inr (12, df12))])[F.length]? = some (q1, .inr (12, df12)) := by simp
  have hDw : va_D (fun _ => True) ([(q1, .inr (12, df12))] ++ F) := by
    refine ⟨fun i j p q hi hj e => ?_, fun _ _ _ => trivial⟩
    have lft : ∀ (i : Nat) (p : Nat × va_E), F[i]? = some p → i < F.length ∧ (F ++ [(q1, .inr (12, df12))])[i]? = some p := fun i p h => by
      have hi := (List.getElem?_eq_some_iff.mp h).1
      exact ⟨hi, by rw [List.getElem?_append_left hi]; exact h⟩
    match i, j, hi, hj with
    | 0, 0, _, _ => rfl
    | 0, j + 1, hi, hj =>
      cases hi
      have h := lft j q hj
      have := hD.1 F.length j _ _ hx1 h.2 e
      omega
    | i + 1, 0, hi, hj =>
      cases hj
      have h := lft i p hi
      have := hD.1 i F.length _ _ h.2 hx1 e
      omega
    | i + 1, j + 1, hi, hj =>
      have := hD.1 i j _ _ (lft i p hi).2 (lft j q hj).2 e
      omega
  have hFc : ∀ z, va_A ([(q1, .inr (12, df12))] ++ F) H.size z → s.heap.size ≤ z := fun z h => by
    rcases h with ⟨k, e0, h⟩ | h
    · rcases List.mem_append.mp (List.mem_of_getElem? h) with h | h
      · obtain ⟨i, hi⟩ := List.mem_iff_getElem?.mp (List.mem_append_right F h)
        exact hD.2 i _ hi
      · obtain ⟨i, hi⟩ := List.mem_iff_getElem?.mp (List.mem_append_left [(q1, .inr (12, df12))] h)
        exact hD.2 i _ hi
    · exact Nat.le_trans hS.1 h
  subst hF
  refine lv_dup hx hb dL_law_11 rfl ?_
  refine va_callv (va_runI (As := []) (rest := [.ref q1]) ⟨hx, hb, hml, hown, hg⟩ (n_X12_in2 l g a N σ1 σ2 ok0 hF1 hF2 q1 H.size) (cwI 0 hg good_12 rfl rfl rfl (hg _ (lwt1 (i := 13) (by decide +kernel) (by decide +kernel))) (hg _ wl_20) (hg _ (lwt5 (i := 236) (by decide +kernel) (by decide +kernel))) rfl (by decide +kernel) ⟨Nat.le_of_ble_eq_true rfl, Nat.le_of_ble_eq_true rfl⟩) ⟨fun a' U g' mk z => ?_, fun U hU hW' => ?_⟩ rfl rfl hl.1 rfl (lv_room (Nat.le_of_ble_eq_true rfl)) dL_law_12 ⟨Nat.le_of_ble_eq_true rfl, Nat.le_of_ble_eq_true rfl⟩) hS (fun z _ h => hFc z h) hFc (fun g' t H1 locs1 ht hvm hw hB hz hk1 hS1 => ?_)
  · obtain ⟨z0, z1, zP, zD, zK, zL1, zL2⟩ := z
    exact ⟨z0, z1, zP, zD, va_K.moved (u := U) (U := U.calling g' mk a') (Vm.Alike.refl U.vm) zK, va_Z.moved (u := U) (U := U.calling g' mk a') (Vm.Alike.refl U.vm) zL1, va_T.moved (u := U) (U := U.calling g' mk a') (Vm.Alike.refl U.vm) zL2⟩
  · subst hU
    exact ⟨rfl, rfl, hPw, hDw, va_K.moved hW'.alike hK, ((hLW.1.kept hS.2.1).moved hW'.alike).narrow hFc, ((hLW.2.kept hS.2.1).moved hW'.alike).narrow hFc⟩
  · have hB : va_P g'.1 vwCl (wd g' σ2) t.heap := hB
    rw [ht] at hB
    refine lv_astore_n (lv' := [(2, .ref q1), (1, .ref (a 0)), (0, .ref b)]) hx hb dL_law_15 rfl hl (by decide) rfl (fun ls hl => ?_)
    exact kk q1 g' H1 locs1 ls hw.1 (fun k hk => hFc _ (hw.2 k hk)) hB hS1 hl
end WSB
