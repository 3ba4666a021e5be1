/-! Float.isNaN, Float.floatToIntBits; static methods of another class -/
def dn32 (x : UInt32) : Decidable (vf_n32 x) := by unfold vf_n32; exact inferInstance
def dn64 (x : UInt64) : Decidable (vf_n64 x) := by unfold vf_n64; exact inferInstance
section FLT
variable {p : Program} {l : Launch} {e : Env} {R : Room} {s : State} {m : MethodId} {args : Array Value} {below : List Frame} {meth : Method} {c : Code} {cl sl : Nat} {g : Geo} {nL : Nat} {Q : State → Prop} {cc : ByteArray} {own : String} {pc : Nat} {lv : List (Nat × Value)} {st : List Value} {σ : Sto}
theorem Met.ofAtF {y : MethodName} {rm : Room} {av : List Value} {sz : Nat} {maxL : Nat} {ret : Option FieldType} {QQ : Nat → Array Value → State → Outcome → State → Prop} (hy : plainFor y = true) (hn : (lg_sl av).length ≤ maxL) (hown : y.cls = own)
    (body : ∀ (p : Program) (e : Env) (s : State) (m : MethodId) (args : Array Value) (below : List Frame) (meth : Method) (c : Code), Cx p rm s m args c 0 0 cc own maxL g → meth.sig.returnType = ret → meth.locks = false → At p l e rm s m args below meth c 0 0 g maxL (MQ below (QQ s.heap.size) args s 0 0 (AA g s.heap.size)) 0 (lv_args 0 av) [] σ) : Met l y (CW y cc maxL ret) rm (MtP g σ av sz) (QQ sz) 0 0 (AA g sz) := by
  refine va_MetF (cc := cc) (maxL := maxL) (ret := ret) hy rfl ?_
  intro p e s m args below meth c s₁ B hml hv
  obtain ⟨rfl, hsz, hP, hK, hI, hL⟩ := hv
  subst hsz
  have hts := atoms_spec (ws := CW y cc maxL ret) B.pre
  have ho : s.vm.findClass y.cls = some m.cls := findClass_of_methodNamed B.named
  have hl := lv_entry av (n := maxL) hn
  rw [lg_entry_eq]
  exact body p e s m av.toArray below meth c ⟨B.exec, B.bytes, hml, by rw [← hown]; exact ho, fun w hw => hts w (List.mem_cons_of_mem _ hw), hK, hI, hL, Nat.zero_le _, Nat.zero_le _⟩ B.returns B.notSynchronized s.heap [] _ hP va_S.rf hl
theorem at_callSx (C : Cx p R s m args c cl sl cc own nL g) {Cn : String} {y : MethodName} {bytes : ByteArray} {maxL : Nat} {ret : Option FieldType} {rm : Room} {n ix : Nat} {As : List Value} {r : Int} {σ' : Sto} {T : Int → Prop} {st0 : List Value} (M : MtI l g y bytes maxL ret rm As σ r σ' T) (K : KS Cn y bytes maxL ret n) (hlk : Cond.methodLink own ix y ∈ lwg) (hn : As.length = n) (hst : st0 = As.reverse ++ st) (hW : (st.map fun v => v.category).sum ≤ 8) (hR : rm.cells = 0 ∧ rm.slots = 0 ∧ rm.frames + 1 ≤ R.frames ∧ 8 + (maxL + 11) + rm.locals ≤ R.locals) (hd : decode cc pc = .ok (.invokestatic ix, 3)) (kk : T r → OK σ' → At p l e R s m args below meth c cl sl g nL Q (pc + 3) lv (vi r :: st) σ') : At p l e R s m args below meth c cl sl g nL Q pc lv st0 σ := by
  intro H locs ls hP hS hl
  obtain ⟨⟨h1, h2⟩, h3, h4, h5⟩ := K
  have hG : GoodIn lwg (CW y bytes maxL ret) := good_in (fun w hw => by
    rcases List.mem_cons.mp hw with rfl | hw
    · exact h3
    · exact hw)
  refine va_calli (va_runS (As := As) (rest := st) ⟨C.1, C.2.1, C.2.2.1, C.2.2.2.1, C.2.2.2.2.1⟩ (M H.size) ⟨callB_of n C.2.2.2.2.1 hG rfl hR.1 hR.2.1 (by rw [h1]; exact C.2.2.2.2.1 _ h5) (C.2.2.2.2.1 _ hlk) h2 hR.2.2, C.2.2.2.2.1 _ h4⟩ ⟨blind g σ _ _, preU C hP hS _⟩ rfl hn hl.1 hst (lv_room hW) hd C.2.2.2.2.2.2.2.2) hS (fun q _ h => AA_sub hS q h) (AA_sub hS) (fun r0 u t H1 locs1 ht hvm hw hB hz hk1 hS1 => ?_)
  obtain ⟨rfl, hT, hok⟩ := hw
  rw [ht] at hB
  exact kk hT hok H1 locs1 ls hB hS1 hl
theorem at_idec (C : Cx p R s m args c cl sl cc own nL g) {i : Nat} {x n k : Int} (hk : Int32.ofInt n = -Int32.ofInt k) (q : Nat) {lv' : List (Nat × Value)} (hd : decode cc pc = .ok (.iinc i n, 3)) (hq : lv[q]? = some (i, vi x)) (hn : i < nL) (hl0 : (i, Value.int (Int32.ofInt (js x k))) :: lv.filter (fun q => !(q.1 == i) && !(q.1 + 1 == i && q.2.category == 2)) = lv') (kk : At p l e R s m args below meth c cl sl g nL Q (pc + 3) lv' st σ) : At p l e R s m args below meth c cl sl g nL Q pc lv st σ := fun H locs ls hP hS hl => lv_iinc (v := Int32.ofInt (js x k)) C.1 C.2.1 hd hl hq (by
  rw [js, Int32.ofInt_toInt, Int32.sub_eq_add_neg, hk]) hn hl0 (fun ls' hl' => kk H locs ls' hP hS hl')
def jfnan (x : UInt32) : Int := if jfcmp x x .l = 0 then 0 else 1
def jfbits (x : UInt32) : Int := if jfcmp x x .l = 0 then x.toInt32.toInt else 2143289344
theorem jfbits_R (x : UInt32) : inR (jfbits x) := by
  unfold jfbits
  by_cases h : jfcmp x x .l = 0
  · rw [if_pos h]; exact inR_t _
  · rw [if_neg h]; exact ⟨by decide, by decide⟩
set_option maxRecDepth 100000 in
theorem c_isNaN (l : Launch) (g : Geo) (x : UInt32) (σ : Sto) (ok : OK σ) : MtI l g yJxf58ca_isNaN_12338 cJxf58ca_isNaN_12338 1 (some .boolean) { frames := 0, cells := 0, slots := 0, locals := 0 } [.float x] σ (jfnan x) σ isB := by
  intro sz
  refine Met.ofAtF (own := RJxf58ca) (QQ := fun z => QI g z (jfnan x) σ isB) (by decide +kernel) (Nat.le_of_ble_eq_true rfl) rfl ?_
  intro p e s m args below meth c C hr hlk
  show At p l e _ s m args below meth c 0 0 g 1 _ 0 [(0, .float x)] [] σ
  refine at_fload_n C 0 dJxf58ca_isNaN_12338_0 rfl rfl ?_
  refine at_fload_n C 0 dJxf58ca_isNaN_12338_1 rfl rfl ?_
  refine at_fcmp C dJxf58ca_isNaN_12338_2 ?_
  refine at_if_eq C (jfcmp_R _ _ _) dJxf58ca_isNaN_12338_3 rfl (fun h => ?_) (fun h => ?_)
  · refine at_iconst C dJxf58ca_isNaN_12338_10 ?_
    have e0 : jfnan x = 0 := if_pos h
    rw [e0]
    exact at_zret C hr hlk (Or.inl rfl) ok dJxf58ca_isNaN_12338_11
  · refine at_iconst C dJxf58ca_isNaN_12338_6 ?_
    refine at_goto C dJxf58ca_isNaN_12338_7 rfl ?_
    have e0 : jfnan x = 1 := if_neg h
    rw [e0]
    exact at_zret C hr hlk (Or.inr rfl) ok dJxf58ca_isNaN_12338_11
theorem ks_isNaN : KS RJxf58ca yJxf58ca_isNaN_12338 cJxf58ca_isNaN_12338 1 (some .boolean) 1 := ⟨by decide +kernel, lwt7 (i := 219) (by decide +kernel) (by decide +kernel), lwt7 (i := 218) (by decide +kernel) (by decide +kernel), lwt1 (i := 21) (by decide +kernel) (by decide +kernel)⟩
theorem ks_f2ib : KS RJxf58ca yJxf58ca_floatToIntBits_5c35a cJxf58ca_floatToIntBits_5c35a 1 (some .int) 1 := ⟨by decide +kernel, lwt7 (i := 216) (by decide +kernel) (by decide +kernel), lwt7 (i := 215) (by decide +kernel) (by decide +kernel), lwt1 (i := 21) (by decide +kernel) (by decide +kernel)⟩
theorem wf_1771 : Cond.methodLink RJxf58ca 59 yJxf58ca_isNaN_12338 ∈ lwg := lwt7 (i := 217) (by decide +kernel) (by decide +kernel)
theorem wf_1774 : Cond.methodLink RJxf58ca 74 ⟨"java/lang/Float", "floatToRawIntBits", "(F)I"⟩ ∈ lwg := lwt7 (i := 220) (by decide +kernel) (by decide +kernel)
theorem wf_1775 : Cond.static ⟨"java/lang/Float", "floatToRawIntBits", "(F)I"⟩ ∈ lwg := lwt7 (i := 221) (by decide +kernel) (by decide +kernel)
theorem wf_1776 : Cond.native ⟨"java/lang/Float", "floatToRawIntBits", "(F)I"⟩ ∈ lwg := lwt7 (i := 222) (by decide +kernel) (by decide +kernel)
theorem wf_1777 : Cond.constant RJxf58ca 77 (Int32.ofInt 2143289344) ∈ lwg := lwt7 (i := 223) (by decide +kernel) (by decide +kernel)
theorem wf_131 : Cond.initialized "java/lang/Float" ∈ lwg := lwt1 (i := 21) (by decide +kernel) (by decide +kernel)
set_option maxRecDepth 100000 in
theorem c_f2ib (l : Launch) (g : Geo) (x : UInt32) (σ : Sto) (ok : OK σ) : MtI l g yJxf58ca_floatToIntBits_5c35a cJxf58ca_floatToIntBits_5c35a 1 (some .int) { frames := 1, cells := 0, slots := 0, locals := 20 } [.float x] σ (jfbits x) σ inR := by
  intro sz
  refine Met.ofAtF (own := RJxf58ca) (QQ := fun z => QI g z (jfbits x) σ inR) (by decide +kernel) (Nat.le_of_ble_eq_true rfl) rfl ?_
  intro p e s m args below meth c C hr hlk
  show At p l e { frames := 1, cells := 0, slots := 0, locals := 20 } s m args below meth c 0 0 g 1 _ 0 [(0, .float x)] [] σ
  refine at_fload_n C 0 dJxf58ca_floatToIntBits_5c35a_0 rfl rfl ?_
  refine at_callSx C (c_isNaN l g x σ ok) ks_isNaN wf_1771 rfl rfl (Nat.le_of_ble_eq_true rfl) ⟨rfl, rfl, Nat.le_of_ble_eq_true rfl, Nat.le_of_ble_eq_true rfl⟩ dJxf58ca_floatToIntBits_5c35a_1 (fun hb _ => ?_)
  refine at_if_ne C hb.r dJxf58ca_floatToIntBits_5c35a_4 rfl (fun h => ?_) (fun h => ?_)
  · refine at_ldc (n := 2143289344) C dJxf58ca_floatToIntBits_5c35a_12 wf_1777 ?_
    have h2 : ¬ jfcmp x x .l = 0 := fun z => h (if_pos z)
    have e0 : jfbits x = 2143289344 := if_neg h2
    rw [e0]
    exact at_iret C hr hlk ⟨by decide, by decide⟩ ok dJxf58ca_floatToIntBits_5c35a_14
  · refine at_fload_n C 0 dJxf58ca_floatToIntBits_5c35a_7 rfl rfl ?_
    have h2 : jfcmp x x .l = 0 := by
      unfold jfnan at h
      by_cases z : jfcmp x x .l = 0
      · exact z
      · rw [if_neg z] at h; cases h
    have e0 : jfbits x = x.toInt32.toInt := if_pos h2
    rw [e0]
    intro H locs ls hP hS hl
    refine vn_f2i C.1 C.2.1 (C.2.2.1.trans hl.1.symm) C.2.2.2.1 (C.2.2.2.2.1 _ wf_1774) (C.2.2.2.2.1 _ wf_1776) (C.2.2.2.2.1 _ wf_1775) (C.2.2.2.2.1 _ wf_131) (Nat.le_of_ble_eq_true rfl) (Nat.le_of_ble_eq_true rfl) dJxf58ca_floatToIntBits_5c35a_8 ?_
    have k := at_iret (l := l) (e := e) (R := { frames := 1, cells := 0, slots := 0, locals := 20 }) (below := below) (lv := [(0, .float x)]) C hr hlk (inR_t x.toInt32) ok dJxf58ca_floatToIntBits_5c35a_11 H locs ls hP hS hl
    rw [vi_t] at k
    exact k
theorem at_fbits (C : Cx p R s m args c cl sl cc own nL g) {ix : Nat} {x : UInt32} (hlk : Cond.methodLink own ix yJxf58ca_floatToIntBits_5c35a ∈ lwg) (hok : OK σ) (hW : (st.map fun v => v.category).sum ≤ 8) (hR : 2 ≤ R.frames ∧ 40 ≤ R.locals) (hd : decode cc pc = .ok (.invokestatic ix, 3)) (kk : At p l e R s m args below meth c cl sl g nL Q (pc + 3) lv (vi (jfbits x) :: st) σ) : At p l e R s m args below meth c cl sl g nL Q pc lv (.float x :: st) σ :=
  at_callSx C (c_f2ib l g x σ hok) ks_f2ib hlk rfl rfl hW ⟨rfl, rfl, hR.1, hR.2⟩ hd (fun _ _ => kk)
end FLT
section LDW
variable {p : Program} {l : Launch} {e : Env} {R : Room} {s : State} {m : MethodId} {args : Array Value} {below : List Frame} {meth : Method} {c : Code} {cl sl : Nat} {g : Geo} {nL : Nat} {Q : State → Prop} {cc : ByteArray} {own : String} {pc : Nat} {lv : List (Nat × Value)} {st : List Value} {σ : Sto}
theorem at_ldcwf (C : Cx p R s m args c cl sl cc own nL g) {n : UInt32} {ix : Nat} (hd : decode cc pc = .ok (.ldc_w ix, 3)) (hw : Cond.constantFloat own ix n ∈ lwg) (k : At p l e R s m args below meth c cl sl g nL Q (pc + 3) lv (.float n :: st) σ) : At p l e R s m args below meth c cl sl g nL Q pc lv st σ := by
  intro H locs ls hP hS hl T hT X
  obtain ⟨t, a, b⟩ := k H locs ls hP hS hl T hT X
  refine ⟨t, ?_, b⟩
  obtain ⟨k0, cf, hk, hcf, hcp⟩ := Cond.constantFloat_spec C.2.2.2.1 (C.2.2.2.2.1 _ hw)
  obtain ⟨k', hk', he⟩ := X.warmed.alike.2.2 _ _ hk
  have hd' : decode c.code (F0 m pc ls st).pc = .ok (.ldc_w ix, 3) := by rw [C.2.1]; exact hd
  jvm_step X.here [C.1, hd', ldc_w.wp_float (s := T) (f := F0 m pc ls st) X.here.top hk' (by rw [he]; exact hcf) hcp]
  exact a
end LDW
