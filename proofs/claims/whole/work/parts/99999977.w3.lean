section WSD
variable {p : Program} {l : Launch} {e : Env} {s : State} {m : MethodId} {below : List Frame} {meth : Method} {c : Code} {b L N : Nat} {xs : Nat → Int32} {Q : State → Prop}
theorem ws_row {g g' : Geo} {a : Nat → Nat} {q1 : Nat} (hx : p.tables.exec = Jvm.exec) (hb : c.code = cL_law) (hg : ∀ w ∈ lwg, w.before #[Value.ref b] s = true) (hK : va_K g.1 vwCl (tysG g) s) (f2 : g'.2.1 = g.2.1) {H : Heap} {locs : List Loc} {ls : Array Slot} (hl : lv_has ls 7 [(2, .ref q1), (1, .ref (a 0)), (0, .ref b)])
    (kk : ∀ (H1 : Heap) (ls : Array Slot), H1[H.size]? = some (arrV g'.2.1.2.2.2 1 (fun _ => .long 0)) → H1.size = H.size + 1 → (∀ q, q < H.size → H1[q]? = H[q]?) → lv_has ls 7 [(4, .int 0), (3, .ref H.size), (2, .ref q1), (1, .ref (a 0)), (0, .ref b)] → W p l e room_1 s m #[Value.ref b] below meth c H1 locs (113 + 1) (10458 + 1) Q (F0 m 23 ls [])) : W p l e room_1 s m #[Value.ref b] below meth c H locs 113 10458 Q (F0 m 16 ls []) := by
  refine lv_iconst (v := 1) hx hb dL_law_16 (by decide) ?_
  have hAr : (Cond.arrayClass (newarray.typeOf ArrayType.long)).before #[Value.ref b] s = true := hg _ ar_long
  refine va_newaK (atype := ArrayType.long) (N := 1) hx hb hAr rfl dL_law_17 rfl (by decide) (by decide) (by decide) (Nat.le_of_ble_eq_true rfl) (Nat.le_of_ble_eq_true rfl) rfl (fun H1 cA e1 z1 o1 hAr hNm => ?_)
  have eA : cA = g'.2.1.2.2.2 := by
    have h := (hK.2 3 (g.2.1.2.2.2, .long) rfl).2
    have h : s.vm.findClass ("[" ++ FieldType.long.toString) = some g.2.1.2.2.2 := h
    rw [f2]
    exact Option.some.inj (hNm.symm.trans h)
  subst eA
  refine lv_astore_n (lv' := [(3, .ref H.size), (2, .ref q1), (1, .ref (a 0)), (0, .ref b)]) hx hb dL_law_19 rfl hl (by decide) rfl (fun ls hl => ?_)
  refine lv_iconst (v := 0) hx hb dL_law_20 (by decide) ?_
  refine lv_istore (lv' := [(4, .int 0), (3, .ref H.size), (2, .ref q1), (1, .ref (a 0)), (0, .ref b)]) hx hb dL_law_21 hl (by decide) rfl (fun ls hl => ?_)
  exact kk H1 ls e1 z1 o1 hl
end WSD
