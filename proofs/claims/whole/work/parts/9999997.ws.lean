/-! THE START: the two constructors, called by the law -/
theorem fn_L8 : FN RL 8 11 18 [.null, .null, .null, .null, .null, .null, .null, .null, .null, .null, .null, .null, .null, .null, .null, .null, .int 0, .int 0] := ⟨RX11, TX11, tyX11, rfl, inw11, tyX11_ok, lwt1 (i := 23) (by decide +kernel) (by decide +kernel), lwt1 (i := 24) (by decide +kernel) (by decide +kernel), lwt1 (i := 1) (by decide +kernel) (by decide +kernel), by
  intro j hj
  have h : ∀ j : Fin 18, defaultValue (tyX11 j) = vp_V [.null, .null, .null, .null, .null, .null, .null, .null, .null, .null, .null, .null, .null, .null, .null, .null, .int 0, .int 0] j := by decide +kernel
  exact h ⟨j, hj⟩⟩
theorem fn_L18 : FN RL 18 12 48 df12 := ⟨RX12, TX12, tyX12, rfl, inw12, tyX12_ok, lwt5 (i := 233) (by decide +kernel) (by decide +kernel), lwt5 (i := 234) (by decide +kernel) (by decide +kernel), lwt1 (i := 13) (by decide +kernel) (by decide +kernel), by
  intro j hj
  have h : ∀ j : Fin 48, defaultValue (tyX12 j) = vp_V df12 j := by decide +kernel
  exact h ⟨j, hj⟩⟩
theorem good_11 : GoodIn lwg (CW yX11_init cX11_init 1 none) := good_in (fun w hw => by
  rcases List.mem_cons.mp hw with rfl | hw
  · exact lwt1 (i := 27) (by decide +kernel) (by decide +kernel)
  · exact hw)
theorem good_12 : GoodIn lwg (CW yX12_init cX12_init 1 none) := good_in (fun w hw => by
  rcases List.mem_cons.mp hw with rfl | hw
  · exact lwt5 (i := 237) (by decide +kernel) (by decide +kernel)
  · exact hw)
section WSA
variable {p : Program} {l : Launch} {e : Env} {s : State} {m : MethodId} {below : List Frame} {meth : Method} {c : Code} {b L : Nat} {xs : Nat → Int32} {Q : State → Prop}
/-- the class's object is made -/
theorem ws_one {g : Geo} (hx : p.tables.exec = Jvm.exec) (hb : c.code = cL_law) (hml : c.maxLocals = 7) (hown : s.vm.findClass RL = some m.cls) (hg : ∀ w ∈ lwg, w.before #[Value.ref b] s = true) (hK : va_K g.1 vwCl (tysG g) s) (hN : NW nestL s) {ls : Array Slot} (hl : lv_has ls 7 [(0, .ref b)])
    (kk : ∀ (a : Nat → Nat) (H : Heap) (locs : List Loc) (ls : Array Slot), va_P g.1 vwCl (flat11 g a) H → va_D (fun q : Nat => s.heap.size ≤ q) (flat11 g a) → va_S (fun q : Nat => s.heap.size ≤ q) s.heap H locs → lv_has ls 7 [(1, .ref (a 0)), (0, .ref b)] → W p l e room_1 s m #[Value.ref b] below meth c H locs (0 + 1 + 93) (0 + 18 + 3921) Q (F0 m 8 ls [])) : W p l e room_1 s m #[Value.ref b] below meth c s.heap [] 0 0 Q (F0 m 0 ls []) := by
  have hA : ∀ q : Nat, s.heap.size ≤ q → (fun q : Nat => s.heap.size ≤ q) q := fun _ h => h
  have hP0 : va_P g.1 vwCl [] s.heap := fun k q h => by simp at h
  have hD0 : va_D (fun q : Nat => s.heap.size ≤ q) [] := ⟨fun i j p q h => by simp at h, fun k q h => by simp at h⟩
  obtain ⟨Cn, T, ty, f1, f2, f3, f4, f5, f6, f7⟩ := fn_L8
  refine va_new hx hb hg f2 ty f3 hown (hg _ f4) (hg _ f5) (hg _ f6) hK hP0 hD0 va_S.rf hA f1 f7 (Nat.le_of_ble_eq_true rfl) (Nat.le_of_ble_eq_true rfl) dL_law_0 (fun q0 H hP hD hS => ?_)
  refine lv_dup hx hb dL_law_3 rfl ?_
  have hFc := va_free (wc := [(q0, .inr (11, [.null, .null, .null, .null, .null, .null, .null, .null, .null, .null, .null, .null, .null, .null, .null, .null, .int 0, .int 0]))]) hD hS hA [0] rfl
  refine va_callv (va_runI (As := []) (rest := [.ref q0]) ⟨hx, hb, hml, hown, hg⟩ (n_X11_init l g q0 H.size) (cwI 0 hg good_11 rfl rfl rfl (hg _ (lwt1 (i := 1) (by decide +kernel) (by decide +kernel))) (hg _ wl_17) (hg _ (lwt1 (i := 26) (by decide +kernel) (by decide +kernel))) rfl (by decide +kernel) ⟨Nat.le_of_ble_eq_true rfl, Nat.le_of_ble_eq_true rfl⟩) ⟨fun a U g' mk z => ?_, fun U hU hW' => ?_⟩ rfl rfl hl.1 rfl (lv_room (Nat.le_of_ble_eq_true rfl)) dL_law_4 ⟨Nat.le_of_ble_eq_true rfl, Nat.le_of_ble_eq_true rfl⟩) hS (fun z _ h => hFc z h) hFc (fun a t H1 locs1 ht hvm hw hB hz hk1 hS1 => ?_)
  · obtain ⟨z0, z1, zP, zK, zN⟩ := z
    exact ⟨z0, z1, zP, va_K.moved (u := U) (U := U.calling g' mk a) (Vm.Alike.refl U.vm) zK, NW.same nestL_ok (u := U) (U := U.calling g' mk a) rfl zN⟩
  · subst hU
    exact ⟨rfl, rfl, hP, va_K.moved hW'.alike hK, NW.warm nestL_ok hW' hN⟩
  · have hB : va_P g.1 vwCl (wX11 g a) t.heap ∧ va_D (NA q0 11 [.null, .null, .null, .null, .null, .null, .null, .null, .null, .null, .null, .null, .null, .null, .null, .null, .int 0, .int 0] H.size) (wX11 g a) := hB
    rw [ht, flat_eq] at hB
    have hw : a 0 = q0 := hw
    subst hw
    have hD2 : va_D (fun q : Nat => s.heap.size ≤ q) (flat11 g a) := ⟨hB.2.1, fun k q hq => hFc q.1 (hB.2.2 k q hq)⟩
    refine lv_astore_n (lv' := [(1, .ref (a 0)), (0, .ref b)]) hx hb dL_law_7 rfl hl (by decide) rfl (fun ls hl => ?_)
    exact kk a H1 locs1 ls hB.1 hD2 hS1 hl
end WSA
