/-! CONSTRUCTORS: worlds that grow, as lists -/
section CTO
variable {p : Program} {l : Launch} {e : Env} {R : Room} {s : State} {m : MethodId} {args : Array Value} {below : List Frame} {meth : Method} {c : Code} {cl sl : Nat} {g : Geo} {A : Nat → Prop} {nL : Nat} {Q : State → Prop} {cc : ByteArray} {own : String} {pc : Nat} {lv : List (Nat × Value)} {st : List Value} {ws : va_W}
def Cc (p : Program) (s : State) (m : MethodId) (args : Array Value) (meth : Method) (c : Code) (cc : ByteArray) (own : String) (nL : Nat) (g : Geo) (A : Nat → Prop) : Prop :=
  p.tables.exec = Jvm.exec ∧ c.code = cc ∧ c.maxLocals = nL ∧ s.vm.findClass own = some m.cls ∧ (∀ w ∈ lwg, w.before args s = true) ∧ va_K g.1 vwCl (tysG g) s ∧ (∀ q, s.heap.size ≤ q → A q) ∧ meth.name = "<init>"
def AtC (p : Program) (l : Launch) (e : Env) (R : Room) (s : State) (m : MethodId) (args : Array Value) (below : List Frame) (meth : Method) (c : Code) (g : Geo) (A : Nat → Prop) (nL : Nat) (Q : State → Prop) (cl sl pc : Nat) (lv : List (Nat × Value)) (st : List Value) (ws : va_W) : Prop :=
  ∀ (H : Heap) (locs : List Loc) (ls : Array Slot), va_P g.1 vwCl ws H → va_D A ws → va_S A s.heap H locs → lv_has ls nL lv → W p l e R s m args below meth c H locs cl sl Q (F0 m pc ls st)
theorem ac_aload_n (C : Cc p s m args meth c cc own nL g A) {k : Fin 4} {i a : Nat} (q : Nat) (hd : decode cc pc = .ok (.aload_n k, 1)) (hi : (k : Nat) = i) (hq : lv[q]? = some (i, .ref a)) (kk : AtC p l e R s m args below meth c g A nL Q cl sl (pc + 1) lv (.ref a :: st) ws) : AtC p l e R s m args below meth c g A nL Q cl sl pc lv st ws := fun H locs ls hP hD hS hl => lv_aload_n C.1 C.2.1 hd hi (lv_at hl q hq) (kk H locs ls hP hD hS hl)
theorem ac_dup (C : Cc p s m args meth c cc own nL g A) {v : Value} (hd : decode cc pc = .ok (.dup, 1)) (hv : v.category = 1) (kk : AtC p l e R s m args below meth c g A nL Q cl sl (pc + 1) lv (v :: v :: st) ws) : AtC p l e R s m args below meth c g A nL Q cl sl pc lv (v :: st) ws := fun H locs ls hP hD hS hl => lv_dup C.1 C.2.1 hd hv (kk H locs ls hP hD hS hl)
theorem ac_iconst (C : Cc p s m args meth c cc own nL g A) {n : Int} (hd : decode cc pc = .ok (.iconst n, 1)) (kk : AtC p l e R s m args below meth c g A nL Q cl sl (pc + 1) lv (vi n :: st) ws) : AtC p l e R s m args below meth c g A nL Q cl sl pc lv st ws := fun H locs ls hP hD hS hl => lv_iconst C.1 C.2.1 hd rfl (kk H locs ls hP hD hS hl)
theorem ac_bipush (C : Cc p s m args meth c cc own nL g A) {n : Int} (hd : decode cc pc = .ok (.bipush n, 2)) (hn : (Int8.ofInt n).toInt32 = Int32.ofInt n) (kk : AtC p l e R s m args below meth c g A nL Q cl sl (pc + 2) lv (vi n :: st) ws) : AtC p l e R s m args below meth c g A nL Q cl sl pc lv st ws := fun H locs ls hP hD hS hl => lv_bipush C.1 C.2.1 hd hn (kk H locs ls hP hD hS hl)
theorem ac_sipush (C : Cc p s m args meth c cc own nL g A) {n : Int} (hd : decode cc pc = .ok (.sipush n, 3)) (hn : (Int16.ofInt n).toInt32 = Int32.ofInt n) (kk : AtC p l e R s m args below meth c g A nL Q cl sl (pc + 3) lv (vi n :: st) ws) : AtC p l e R s m args below meth c g A nL Q cl sl pc lv st ws := fun H locs ls hP hD hS hl => lv_sipush C.1 C.2.1 hd hn (kk H locs ls hP hD hS hl)
theorem cA_eq {ty : FieldType} {U : State} {c1 c2 : ClassId} (hty : ty = .int ∨ ty = .byte ∨ ty = .float ∨ ty = .long) (h1 : va_RA U c1 ty) (h2 : va_RA U c2 ty) : c1 = c2 := by
  rcases hty with rfl | rfl | rfl | rfl <;> exact Option.some.inj (h1.symm.trans h2)
theorem ac_newa (C : Cc p s m args meth c cc own nL g A) {atype : ArrayType} {ty : FieldType} {cA : ClassId} {a0 : vp_A} {N' : Nat} {n : Int} {cl' sl' : Nat} (t0 : Nat) (ht : (tysG g)[t0]? = some (cA, ty)) (h4 : ty = .int ∨ ty = .byte ∨ ty = .float ∨ ty = .long) (harr : Cond.arrayClass (newarray.typeOf atype) ∈ lwg) (hty : newarray.typeOf atype = ty) (ha : ∀ cA : ClassId, vp_cell cA a0 = arrV cA N' (fun _ => defaultValue ty)) (hN : (N' : Int) = n) (hb : N' ≤ 100000) (h1 : cl + 1 = cl') (h2 : sl + N' = sl') (hR : cl' ≤ R.cells ∧ sl' ≤ R.slots) (hd : decode cc pc = .ok (.newarray atype, 2)) (kk : ∀ q, AtC p l e R s m args below meth c g A nL Q cl' sl' (pc + 2) lv (.ref q :: st) (ws ++ [(q, .inl (cA, a0))])) : AtC p l e R s m args below meth c g A nL Q cl sl pc lv (vi n :: st) ws := by
  intro H locs ls hP hD hS hl
  subst hN; subst h1; subst h2
  have hb8 : componentBytes ty ≤ 8 := by rcases h4 with rfl | rfl | rfl | rfl <;> decide
  refine va_newa C.1 C.2.1 (C.2.2.2.2.1 _ harr) hty C.2.2.2.2.2.1 hP hD hS C.2.2.2.2.2.2.1 ha (N' := N') (fun z => by
    rw [Int32.lt_iff_toInt_lt, t_ofI ⟨by omega, by omega⟩] at z
    have z : ((N' : Nat) : Int) < 0 := z
    omega) (by
    rw [Int32.toNatClampNeg_ofInt_of_le (by omega) (by omega)]; omega) (Nat.le_trans (Nat.mul_le_mul hb hb8) (by decide)) hR.1 hR.2 hd (fun q c2 H1 hK hP1 hD1 hS1 => ?_)
  have e1 : c2 = cA := cA_eq h4 ((hK.2 4 (c2, ty) rfl).2) ((C.2.2.2.2.2.1.2 t0 _ ht).2)
  subst e1
  exact kk q H1 locs ls hP1 hD1 hS1 hl
/-- a class that can be made, by a class link of own -/
def FN (own : String) (ix ci N : Nat) (fs : List Value) : Prop := ∃ (Cn : String) (T : u_T) (ty : Nat → FieldType), vwCl[ci]? = some (Cn, T, N) ∧ (∀ w ∈ u_ws Cn T N, w ∈ lwg) ∧ (∀ k, k < N → parseFieldDescriptor (T k).2.2.1 = some (ty k)) ∧ Cond.classLink own ix Cn ∈ lwg ∧ Cond.instantiable Cn N ∈ lwg ∧ Cond.initialized Cn ∈ lwg ∧ ∀ j, j < N → defaultValue (ty j) = vp_V fs j
theorem ac_new (C : Cc p s m args meth c cc own nL g A) {ix ci N : Nat} {fs : List Value} {cl' sl' : Nat} (F : FN own ix ci N fs) (h1 : cl + 1 = cl') (h2 : sl + N = sl') (hR : cl' ≤ R.cells ∧ sl' ≤ R.slots) (hd : decode cc pc = .ok (.new ix, 3)) (kk : ∀ q, AtC p l e R s m args below meth c g A nL Q cl' sl' (pc + 3) lv (.ref q :: st) (ws ++ [(q, .inr (ci, fs))])) : AtC p l e R s m args below meth c g A nL Q cl sl pc lv st ws := by
  intro H locs ls hP hD hS hl
  subst h1; subst h2
  obtain ⟨Cn, T, ty, f1, f2, f3, f4, f5, f6, f7⟩ := F
  exact va_new C.1 C.2.1 C.2.2.2.2.1 f2 ty f3 C.2.2.2.1 (C.2.2.2.2.1 _ f4) (C.2.2.2.2.1 _ f5) (C.2.2.2.2.1 _ f6) C.2.2.2.2.2.1 hP hD hS C.2.2.2.2.2.2.1 f1 f7 hR.1 hR.2 hd (fun q H1 hP1 hD1 hS1 => kk q H1 locs ls hP1 hD1 hS1 hl)
def FUF (own : String) (ix ci j : Nat) (ty : FieldType) : Prop := ∃ (Cn : String) (T : u_T) (n : Nat) (ty0 : Nat → FieldType), vwCl[ci]? = some (Cn, T, n) ∧ j < n ∧ (∀ w ∈ u_ws Cn T n, w ∈ lwg) ∧ Cond.fieldLink own ix (T j).1 (T j).2.1 (T j).2.2.1 ∈ lwg ∧ (∀ k, k < n → parseFieldDescriptor (T k).2.2.1 = some (ty0 k)) ∧ (∀ a, a < n → ∀ b, b < n → a ≠ b → (T a).2.1 ≠ (T b).2.1) ∧ (T j).2.2.2 = true ∧ (T j).1 = own ∧ parseFieldDescriptor (T j).2.2.1 = some ty
theorem ac_putF (C : Cc p s m args meth c cc own nL g A) {ix ci j a : Nat} {ty : FieldType} {v : Value} {fs : List Value} {ws' : va_W} (q0 : Nat) (F : FUF own ix ci j ty) (he : ws[q0]? = some (a, .inr (ci, fs))) (hn : narrow ty v = v) (hf : fits ty v = true) (hl0 : j < fs.length) (hw : ws.set q0 (a, .inr (ci, fs.set j v)) = ws') (hd : decode cc pc = .ok (.putfield ix, 3)) (kk : AtC p l e R s m args below meth c g A nL Q cl sl (pc + 3) lv st ws') : AtC p l e R s m args below meth c g A nL Q cl sl pc lv (v :: .ref a :: st) ws := by
  intro H locs ls hP hD hS hl
  subst hw
  obtain ⟨Cn, T, n', ty0, a1, a2, a3, a4, a5, a6, a7, a8, a9⟩ := F
  exact va_putF C.1 C.2.1 C.2.2.2.2.1 a3 ty0 a5 a6 C.2.2.2.1 C.2.2.2.2.2.1 hP hD hS q0 he a1 j a2 (C.2.2.2.2.1 _ a4) (fun _ h => h) a7 C.2.2.2.2.2.2.2 a8 a9 hn hf hl0 hd (fun H1 locs1 hP1 hD1 hS1 => kk H1 locs1 ls hP1 hD1 hS1 hl)
theorem ac_put (C : Cc p s m args meth c cc own nL g A) {ix ci j a : Nat} {ty : FieldType} {v : Value} {fs : List Value} {ws' : va_W} (q0 : Nat) (F : FU own ix ci j ty) (he : ws[q0]? = some (a, .inr (ci, fs))) (hn : narrow ty v = v) (hf : fits ty v = true) (hl0 : j < fs.length) (hw : ws.set q0 (a, .inr (ci, fs.set j v)) = ws') (hd : decode cc pc = .ok (.putfield ix, 3)) (kk : AtC p l e R s m args below meth c g A nL Q cl sl (pc + 3) lv st ws') : AtC p l e R s m args below meth c g A nL Q cl sl pc lv (v :: .ref a :: st) ws := by
  intro H locs ls hP hD hS hl
  subst hw
  obtain ⟨Cn, T, n', ty0, a1, a2, a3, a4, a5, a6, a7, a8⟩ := F
  exact va_put C.1 C.2.1 C.2.2.2.2.1 a3 ty0 a5 a6 C.2.2.2.1 C.2.2.2.2.2.1 hP hD hS q0 he a1 j a2 (C.2.2.2.2.1 _ a4) (fun _ h => h) a7 a8 hn hf hl0 hd (fun H1 locs1 hP1 hD1 hS1 => kk H1 locs1 ls hP1 hD1 hS1 hl)
theorem ac_iast (C : Cc p s m args meth c cc own nL g A) {a n : Nat} {f : Nat → Int32} {i v : Int} {ws' : va_W} (q0 : Nat) (he : ws[q0]? = some (a, .inl (g.2.1.1, n, .inl f))) (hi : 0 ≤ i ∧ i < n) (hn : n ≤ 4600) (hw : ws.set q0 (a, .inl (g.2.1.1, n, .inl (upd f i.toNat (Int32.ofInt v)))) = ws') (hd : decode cc pc = .ok (.iastore, 1)) (kk : AtC p l e R s m args below meth c g A nL Q cl sl (pc + 1) lv st ws') : AtC p l e R s m args below meth c g A nL Q cl sl pc lv (vi v :: vi i :: .ref a :: st) ws := by
  intro H locs ls hP hD hS hl
  subst hw
  refine va_iast C.1 C.2.1 C.2.2.2.2.2.1 hP hD hS q0 0 he rfl (vpin hi hn) hd (fun H1 locs1 hP1 hD1 hS1 => ?_)
  rw [clampI hi hn] at hP1 hD1
  exact kk H1 locs1 ls hP1 hD1 hS1 hl
theorem ac_obj (C : Cc p s m args meth c cc own nL g A) {ix a : Nat} (hw : Cond.methodLink own ix Lib.objectInit ∈ lwg) (h1 : Cond.instanceMethod Lib.objectInit ∈ lwg) (h2 : Cond.code Lib.objectInit ⟨#[0xb1]⟩ 1 none ∈ lwg) (hR : 1 ≤ R.frames ∧ (st.map fun v => v.category).sum + 12 ≤ R.locals) (hd : decode cc pc = .ok (.invokespecial ix, 3)) (kk : AtC p l e R s m args below meth c g A nL Q cl sl (pc + 3) lv st ws) : AtC p l e R s m args below meth c g A nL Q cl sl pc lv (.ref a :: st) ws := fun H locs ls hP hD hS hl => W.objInit C.1 C.2.1 C.2.2.2.1 (C.2.2.2.2.1 _ hw) (C.2.2.2.2.1 _ h1) (C.2.2.2.2.1 _ h2) rfl (hl.1.trans C.2.2.1.symm) rfl hd hR.1 (by show 2 * 0 + _ + 12 ≤ _; rw [Nat.mul_zero, Nat.zero_add]; exact hR.2) (kk H locs ls hP hD hS hl)
theorem join_end {A0 : Nat → Prop} {D : va_G} {cls : List vw_C} {wr w1 : va_W} {x : Nat × va_E} {H H1 : Heap} (hP : va_P D cls (wr ++ [x]) H) (hD : va_D A0 (wr ++ [x])) (hk : ∀ q : Nat, q < H.size → ¬ va_A [x] H.size q → H1[q]? = H[q]?) (hF : ∀ q, va_A [x] H.size q → A0 q) (hP1 : va_P D cls w1 H1) (hD1 : va_D (va_A [x] H.size) w1) : va_P D cls (wr ++ w1) H1 ∧ va_D A0 (wr ++ w1) := by
  have nd : ∀ n : Nat, va_nd (List.range n) = true := by
    intro n
    have : ∀ (L : List Nat), L.Nodup → va_nd L = true := by
      intro L hL
      induction L with
      | nil => rfl
      | cons b L ih =>
        have h := List.nodup_cons.mp hL
        simp [va_nd, ih h.2, h.1]
    exact this _ List.nodup_range
  refine va_join hP hD [wr.length] (List.range wr.length) ?_ ?_ (nd _) ?_ hk hF hP1 hD1
  · simp
  · apply List.ext_getElem?
    intro i
    rw [List.getElem?_map, List.getElem?_map]
    rcases Nat.lt_or_ge i wr.length with h | h
    · rw [List.getElem?_range h]
      show some ((wr ++ [x])[i]?) = _
      rw [List.getElem?_append_left h, List.getElem?_eq_getElem h]
      rfl
    · rw [List.getElem?_eq_none (by rw [List.length_range]; exact h), List.getElem?_eq_none h]
      rfl
  · intro i hi
    have := List.mem_range.mp hi
    simp
    omega
end CTO
def NW (nestL : List Cond) (U : State) : Prop := ∀ w ∈ nestL, va_Nw w U
def isNest (w : Cond) : Prop := ∃ (a : String) (i : Nat) (x : MethodName) (h : String), w = .methodLinkNest a i x h
theorem NW.warm {nestL : List Cond} (hn : ∀ w ∈ nestL, isNest w) {s U : State} (hW : s.WarmedH U.vm) (h : NW nestL s) : NW nestL U := by
  intro w hw
  obtain ⟨a, i, x, hh, rfl⟩ := hn w hw
  exact va_Nw.warmM hW (h _ hw)
theorem NW.same {nestL : List Cond} (hn : ∀ w ∈ nestL, isNest w) {u U : State} (hv : u.vm = U.vm) (h : NW nestL u) : NW nestL U := by
  intro w hw
  obtain ⟨a, i, x, hh, rfl⟩ := hn w hw
  exact va_Nw.same rfl hv (h _ hw)
abbrev NPc (nestL : List Cond) (g : Geo) (h0 ci : Nat) (fs : List Value) (sz : Nat) : Array Value → State → Prop := va_Pc [.ref h0] (fun U => U.heap.size = sz ∧ va_P g.1 vwCl [(h0, .inr (ci, fs))] U.heap ∧ va_K g.1 vwCl (tysG g) U ∧ NW nestL U)
abbrev NA (h0 ci : Nat) (fs : List Value) (sz : Nat) : Nat → Prop := va_A [(h0, .inr (ci, fs))] sz
abbrev NQ (g : Geo) (h0 ci : Nat) (fs : List Value) (sz : Nat) (wX : (Nat → Nat) → va_W) : Array Value → State → Outcome → State → Prop := va_Qv (fun a : Nat → Nat => a 0 = h0) (fun a t => va_P g.1 vwCl (wX a) t.heap ∧ va_D (NA h0 ci fs sz) (wX a)) (NA h0 ci fs sz)
def MtN (nestL : List Cond) (l : Launch) (g : Geo) (y : MethodName) (bytes : ByteArray) (maxL : Nat) (rm : Room) (ci : Nat) (fs : List Value) (wX : (Nat → Nat) → va_W) (MC MS : Nat) : Prop := ∀ h0 sz, Met l y (CW y bytes maxL none) rm (NPc nestL g h0 ci fs sz) (NQ g h0 ci fs sz wX) MC MS (NA h0 ci fs sz)
section CT2
variable {p : Program} {l : Launch} {e : Env} {R : Room} {s : State} {m : MethodId} {args : Array Value} {below : List Frame} {meth : Method} {c : Code} {cl sl : Nat} {g : Geo} {A : Nat → Prop} {nL : Nat} {Q : State → Prop} {cc : ByteArray} {own : String} {pc : Nat} {lv : List (Nat × Value)} {st : List Value} {ws : va_W} {nestL : List Cond}
theorem D1 {B : Nat → Prop} {h0 : Nat} {x : va_E} (h : B h0) : va_D B [(h0, x)] := by
  refine ⟨fun i j p q hi hj _ => ?_, fun k q hq => ?_⟩
  · have h1 : i < 1 := (List.getElem?_eq_some_iff.mp hi).1
    have h2 : j < 1 := (List.getElem?_eq_some_iff.mp hj).1
    omega
  · have h1 : k < 1 := (List.getElem?_eq_some_iff.mp hq).1
    obtain rfl : k = 0 := by omega
    cases hq
    exact h
theorem MtN.of {y : MethodName} {rm : Room} {ci MC MS maxL : Nat} {fs : List Value} {wX : (Nat → Nat) → va_W} (hy : plainName y.cls = true) (hyn : y.name = "<init>") (hown : y.cls = own) (hn : 1 ≤ maxL)
    (body : ∀ (h0 : Nat) (p : Program) (e : Env) (s : State) (m : MethodId) (args : Array Value) (below : List Frame) (meth : Method) (c : Code), Cc p s m args meth c cc own maxL g (NA h0 ci fs s.heap.size) → meth.sig.returnType = none → meth.locks = false → NW nestL s → AtC p l e rm s m args below meth c g (NA h0 ci fs s.heap.size) maxL (MQ below (NQ g h0 ci fs s.heap.size wX) args s MC MS (NA h0 ci fs s.heap.size)) 0 0 0 [(0, .ref h0)] [] [(h0, .inr (ci, fs))]) : MtN nestL l g y cc maxL rm ci fs wX MC MS := by
  intro h0 sz
  refine Met.ofW (cc := cc) (maxL := maxL) (ret := none) hy rfl ?_
  intro p e s m args below meth c s₁ B hml hv
  obtain ⟨rfl, hsz, hP, hK, hN⟩ := hv
  subst hsz
  have hts := atoms_spec (ws := CW y cc maxL none) B.pre
  have ho : s.vm.findClass y.cls = some m.cls := findClass_of_methodNamed B.named
  have hin : meth.name = y.name := (name_of_methodNamed B.named B.method).1
  have hl := lv_entry [.ref h0] (n := maxL) hn
  rw [lg_entry_eq]
  exact body h0 p e s m _ below meth c ⟨B.exec, B.bytes, hml, by rw [← hown]; exact ho, fun w hw => hts w (List.mem_cons_of_mem _ hw), hK, fun q h => Or.inr h, hin.trans hyn⟩ B.returns B.notSynchronized hN s.heap [] _ hP (D1 (Or.inl ⟨0, _, rfl⟩)) va_S.rf hl
theorem ac_ret {ci h0 : Nat} {fs : List Value} {wX : (Nat → Nat) → va_W} (C : Cc p s m args meth c cc own nL g (NA h0 ci fs s.heap.size)) (hr : meth.sig.returnType = none) (hlk : meth.locks = false) (a : Nat → Nat) (h0a : a 0 = h0) (hw : ws = wX a) (hd : decode cc pc = .ok (.return_, 1)) : AtC p l e R s m args below meth c g (NA h0 ci fs s.heap.size) nL (MQ below (NQ g h0 ci fs s.heap.size wX) args s cl sl (NA h0 ci fs s.heap.size)) cl sl pc lv [] ws := by
  intro H locs ls hP hD hS hl
  subst hw
  exact W.vret C.1 C.2.1 hr (fun t ht hW => ⟨⟨a, rfl, h0a, by show va_P g.1 vwCl (wX a) t.heap; rw [ht]; exact hP, hD⟩, hS.F ht⟩) hS.2.2 hd hlk
def KI (own : String) (ix : Nat) (y : MethodName) (bytes : ByteArray) (maxL : Nat) : Prop := (y.cls ≠ "java/lang/invoke/MethodHandle" ∧ y.cls ≠ "java/lang/invoke/VarHandle" ∧ (parseMethodDescriptor y.desc).map (fun d => d.parameters.length) = some 0) ∧ y.name = "<init>" ∧ Cond.code y bytes maxL none ∈ lwg ∧ Cond.instanceMethod y ∈ lwg ∧ Cond.initialized y.cls ∈ lwg
theorem ac_callI (C : Cc p s m args meth c cc own nL g A) (hN : NW nestL s) (hns : ∀ w ∈ nestL, isNest w) {y : MethodName} {bytes : ByteArray} {maxL MC MS ix ci q cl' sl' : Nat} {rm : Room} {fs : List Value} {wX : (Nat → Nat) → va_W} {host : String} {wr : va_W} (M : MtN nestL l g y bytes maxL rm ci fs wX MC MS) (K : KI own ix y bytes maxL) (hlk : Cond.methodLinkNest own ix y host ∈ nestL) (hws : ws = wr ++ [(q, .inr (ci, fs))]) (hW : (st.map fun v => v.category).sum ≤ 8) (hR : rm.cells = MC ∧ rm.slots = MS ∧ rm.frames + 1 ≤ R.frames ∧ 8 + (maxL + 11) + rm.locals ≤ R.locals) (h1 : cl + MC = cl') (h2 : sl + MS = sl') (hR2 : cl' ≤ R.cells ∧ sl' ≤ R.slots) (hd : decode cc pc = .ok (.invokespecial ix, 3)) (kk : ∀ a : Nat → Nat, a 0 = q → AtC p l e R s m args below meth c g A nL Q cl' sl' (pc + 3) lv st (wr ++ wX a)) : AtC p l e R s m args below meth c g A nL Q cl sl pc lv (.ref q :: st) ws := by
  intro H locs ls hP hD hS hl
  subst hws; subst h1; subst h2
  obtain ⟨k1, k2, k3, k4, k5⟩ := K
  have hG : GoodIn lwg (CW y bytes maxL none) := good_in (fun w hw => by
    rcases List.mem_cons.mp hw with rfl | hw
    · exact k3
    · exact hw)
  have hPc : va_P g.1 vwCl [(q, .inr (ci, fs))] H := hP.sub [wr.length] (by simp)
  have hFc : ∀ z, NA q ci fs H.size z → A z := va_free (wc := [(q, .inr (ci, fs))]) hD hS C.2.2.2.2.2.2.1 [wr.length] (by simp)
  refine va_callv (va_runIN (As := []) (rest := st) ⟨C.1, C.2.1, C.2.2.1, C.2.2.2.1, C.2.2.2.2.1⟩ (M q H.size) ⟨va_cnB 0 C.2.2.2.2.1 hG rfl hR.1 hR.2.1 (hN _ hlk) (C.2.2.2.2.1 _ k5) k1 hR.2.2, k2, C.2.2.2.2.1 _ k4⟩ ⟨fun a U g' mk z => ?_, fun U hU hW' => ?_⟩ rfl rfl hl.1 rfl (lv_room hW) hd hR2) hS (fun z _ h => hFc z h) hFc (fun a t H1 locs1 ht hvm hw hB hz hk1 hS1 => ?_)
  · obtain ⟨z0, z1, zP, zK, zN⟩ := z
    exact ⟨z0, z1, zP, va_K.moved (u := U) (U := U.calling g' mk a) (Vm.Alike.refl U.vm) zK, NW.same hns (u := U) (U := U.calling g' mk a) rfl zN⟩
  · subst hU
    exact ⟨rfl, rfl, hPc, va_K.moved hW'.alike C.2.2.2.2.2.1, NW.warm hns hW' hN⟩
  · obtain ⟨hP1, hD1⟩ := hB
    rw [ht] at hP1
    obtain ⟨hP2, hD2⟩ := join_end hP hD hk1 hFc hP1 hD1
    exact kk a hw H1 locs1 ls hP2 hD2 hS1 hl
end CT2
