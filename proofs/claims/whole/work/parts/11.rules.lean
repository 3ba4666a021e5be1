/-! A RULE AN INSTRUCTION, over At -/
section RUL
variable {p : Program} {l : Launch} {e : Env} {R : Room} {s : State} {m : MethodId} {args : Array Value} {below : List Frame} {meth : Method} {c : Code} {cl sl : Nat} {g : Geo} {nL : Nat} {Q : State → Prop} {cc : ByteArray} {own : String} {pc : Nat} {lv : List (Nat × Value)} {st : List Value} {σ : Sto}
def ja (a b : Int) : Int := (Int32.ofInt a + Int32.ofInt b).toInt
theorem ja_R (a b : Int) : inR (ja a b) := inR_t _
def js (a b : Int) : Int := (Int32.ofInt a - Int32.ofInt b).toInt
theorem js_R (a b : Int) : inR (js a b) := inR_t _
def jm (a b : Int) : Int := (Int32.ofInt a * Int32.ofInt b).toInt
theorem jm_R (a b : Int) : inR (jm a b) := inR_t _
def jand (a b : Int) : Int := (Int32.ofInt a &&& Int32.ofInt b).toInt
theorem jand_R (a b : Int) : inR (jand a b) := inR_t _
def jor (a b : Int) : Int := (Int32.ofInt a ||| Int32.ofInt b).toInt
theorem jor_R (a b : Int) : inR (jor a b) := inR_t _
def jxor (a b : Int) : Int := (Int32.ofInt a ^^^ Int32.ofInt b).toInt
theorem jxor_R (a b : Int) : inR (jxor a b) := inR_t _
def jshl (a b : Int) : Int := (Int32.ofInt a <<< (Int32.ofInt b &&& 31)).toInt
theorem jshl_R (a b : Int) : inR (jshl a b) := inR_t _
def jshr (a b : Int) : Int := (Int32.ofInt a >>> (Int32.ofInt b &&& 31)).toInt
theorem jshr_R (a b : Int) : inR (jshr a b) := inR_t _
def jdiv (a b : Int) : Int := (Int32.ofInt a / Int32.ofInt b).toInt
theorem jdiv_R (a b : Int) : inR (jdiv a b) := inR_t _
def jrem (a b : Int) : Int := (Int32.ofInt a - Int32.ofInt a / Int32.ofInt b * Int32.ofInt b).toInt
theorem jrem_R (a b : Int) : inR (jrem a b) := inR_t _
def jneg (a : Int) : Int := (-Int32.ofInt a).toInt
theorem jneg_R (a : Int) : inR (jneg a) := inR_t _
def ji2b (a : Int) : Int := (Int32.ofInt a).toInt8.toInt32.toInt
theorem ji2b_R (a : Int) : inR (ji2b a) := inR_t _
theorem at_iadd (C : Cx p R s m args c cl sl cc own nL g) {a b : Int} (hd : decode cc pc = .ok (.iadd, 1)) (k : At p l e R s m args below meth c cl sl g nL Q (pc + 1) lv (vi (ja a b) :: st) σ) : At p l e R s m args below meth c cl sl g nL Q pc lv (vi b :: vi a :: st) σ := by
  intro H locs ls hP hS hl
  have h := k H locs ls hP hS hl
  rw [ja, vi_t] at h
  exact lv_iadd C.1 C.2.1 hd h
theorem at_isub (C : Cx p R s m args c cl sl cc own nL g) {a b : Int} (hd : decode cc pc = .ok (.isub, 1)) (k : At p l e R s m args below meth c cl sl g nL Q (pc + 1) lv (vi (js a b) :: st) σ) : At p l e R s m args below meth c cl sl g nL Q pc lv (vi b :: vi a :: st) σ := by
  intro H locs ls hP hS hl
  have h := k H locs ls hP hS hl
  rw [js, vi_t] at h
  exact lv_isub C.1 C.2.1 hd h
theorem at_imul (C : Cx p R s m args c cl sl cc own nL g) {a b : Int} (hd : decode cc pc = .ok (.imul, 1)) (k : At p l e R s m args below meth c cl sl g nL Q (pc + 1) lv (vi (jm a b) :: st) σ) : At p l e R s m args below meth c cl sl g nL Q pc lv (vi b :: vi a :: st) σ := by
  intro H locs ls hP hS hl
  have h := k H locs ls hP hS hl
  rw [jm, vi_t] at h
  exact lv_imul C.1 C.2.1 hd h
theorem at_iand (C : Cx p R s m args c cl sl cc own nL g) {a b : Int} (hd : decode cc pc = .ok (.iand, 1)) (k : At p l e R s m args below meth c cl sl g nL Q (pc + 1) lv (vi (jand a b) :: st) σ) : At p l e R s m args below meth c cl sl g nL Q pc lv (vi b :: vi a :: st) σ := by
  intro H locs ls hP hS hl
  have h := k H locs ls hP hS hl
  rw [jand, vi_t] at h
  exact lv_iand C.1 C.2.1 hd h
theorem at_ior (C : Cx p R s m args c cl sl cc own nL g) {a b : Int} (hd : decode cc pc = .ok (.ior, 1)) (k : At p l e R s m args below meth c cl sl g nL Q (pc + 1) lv (vi (jor a b) :: st) σ) : At p l e R s m args below meth c cl sl g nL Q pc lv (vi b :: vi a :: st) σ := by
  intro H locs ls hP hS hl
  have h := k H locs ls hP hS hl
  rw [jor, vi_t] at h
  exact lv_ior C.1 C.2.1 hd h
theorem at_ixor (C : Cx p R s m args c cl sl cc own nL g) {a b : Int} (hd : decode cc pc = .ok (.ixor, 1)) (k : At p l e R s m args below meth c cl sl g nL Q (pc + 1) lv (vi (jxor a b) :: st) σ) : At p l e R s m args below meth c cl sl g nL Q pc lv (vi b :: vi a :: st) σ := by
  intro H locs ls hP hS hl
  have h := k H locs ls hP hS hl
  rw [jxor, vi_t] at h
  exact lv_ixor C.1 C.2.1 hd h
theorem at_ishl (C : Cx p R s m args c cl sl cc own nL g) {a b : Int} (hd : decode cc pc = .ok (.ishl, 1)) (k : At p l e R s m args below meth c cl sl g nL Q (pc + 1) lv (vi (jshl a b) :: st) σ) : At p l e R s m args below meth c cl sl g nL Q pc lv (vi b :: vi a :: st) σ := by
  intro H locs ls hP hS hl
  have h := k H locs ls hP hS hl
  rw [jshl, vi_t] at h
  exact lv_ishl C.1 C.2.1 hd h
theorem at_ishr (C : Cx p R s m args c cl sl cc own nL g) {a b : Int} (hd : decode cc pc = .ok (.ishr, 1)) (k : At p l e R s m args below meth c cl sl g nL Q (pc + 1) lv (vi (jshr a b) :: st) σ) : At p l e R s m args below meth c cl sl g nL Q pc lv (vi b :: vi a :: st) σ := by
  intro H locs ls hP hS hl
  have h := k H locs ls hP hS hl
  rw [jshr, vi_t] at h
  exact lv_ishr C.1 C.2.1 hd h
theorem at_idiv (C : Cx p R s m args c cl sl cc own nL g) {a b : Int} (hd : decode cc pc = .ok (.idiv, 1)) (hr : inR b) (h0 : ¬ b = 0) (k : At p l e R s m args below meth c cl sl g nL Q (pc + 1) lv (vi (jdiv a b) :: st) σ) : At p l e R s m args below meth c cl sl g nL Q pc lv (vi b :: vi a :: st) σ := by
  intro H locs ls hP hS hl
  have h := k H locs ls hP hS hl
  rw [jdiv, vi_t] at h
  exact lv_idiv C.1 C.2.1 hd (fun z => h0 (by have z := congrArg Int32.toInt z; rw [t_ofI hr] at z; exact z)) h
theorem at_irem (C : Cx p R s m args c cl sl cc own nL g) {a b : Int} (hd : decode cc pc = .ok (.irem, 1)) (hr : inR b) (h0 : ¬ b = 0) (k : At p l e R s m args below meth c cl sl g nL Q (pc + 1) lv (vi (jrem a b) :: st) σ) : At p l e R s m args below meth c cl sl g nL Q pc lv (vi b :: vi a :: st) σ := by
  intro H locs ls hP hS hl
  have h := k H locs ls hP hS hl
  rw [jrem, vi_t] at h
  exact lv_irem C.1 C.2.1 hd (fun z => h0 (by have z := congrArg Int32.toInt z; rw [t_ofI hr] at z; exact z)) h
theorem at_ineg (C : Cx p R s m args c cl sl cc own nL g) {a : Int} (hd : decode cc pc = .ok (.ineg, 1)) (k : At p l e R s m args below meth c cl sl g nL Q (pc + 1) lv (vi (jneg a) :: st) σ) : At p l e R s m args below meth c cl sl g nL Q pc lv (vi a :: st) σ := by
  intro H locs ls hP hS hl
  have h := k H locs ls hP hS hl
  rw [jneg, vi_t] at h
  exact lv_ineg C.1 C.2.1 hd h
theorem at_i2b (C : Cx p R s m args c cl sl cc own nL g) {a : Int} (hd : decode cc pc = .ok (.i2b, 1)) (k : At p l e R s m args below meth c cl sl g nL Q (pc + 1) lv (vi (ji2b a) :: st) σ) : At p l e R s m args below meth c cl sl g nL Q pc lv (vi a :: st) σ := by
  intro H locs ls hP hS hl
  have h := k H locs ls hP hS hl
  rw [ji2b, vi_t] at h
  exact lv_i2b C.1 C.2.1 hd rfl h
def inL (x : Int) : Prop := -9223372036854775808 ≤ x ∧ x ≤ 9223372036854775807
theorem inL_t (x : Int64) : inL x.toInt := ⟨by have := Int64.le_toInt x; omega, by have := Int64.toInt_lt x; omega⟩
theorem t_ofL {x : Int} (h : inL x) : (Int64.ofInt x).toInt = x := Int64.toInt_ofInt_of_le (by have := h.1; omega) (by have := h.2; omega)
theorem inR.lo {x : Int} (h : inR x) : inL x := ⟨by have := h.1; omega, by have := h.2; omega⟩
def jla (a b : Int) : Int := (Int64.ofInt a + Int64.ofInt b).toInt
theorem jla_L (a b : Int) : inL (jla a b) := inL_t _
theorem at_ladd (C : Cx p R s m args c cl sl cc own nL g) {a b : Int} (hd : decode cc pc = .ok (.ladd, 1)) (k : At p l e R s m args below meth c cl sl g nL Q (pc + 1) lv (vl (jla a b) :: st) σ) : At p l e R s m args below meth c cl sl g nL Q pc lv (vl b :: vl a :: st) σ := by
  intro H locs ls hP hS hl
  have h := k H locs ls hP hS hl
  rw [jla, vl_t] at h
  exact lv_ladd C.1 C.2.1 hd h
def jlm (a b : Int) : Int := (Int64.ofInt a * Int64.ofInt b).toInt
theorem jlm_L (a b : Int) : inL (jlm a b) := inL_t _
theorem at_lmul (C : Cx p R s m args c cl sl cc own nL g) {a b : Int} (hd : decode cc pc = .ok (.lmul, 1)) (k : At p l e R s m args below meth c cl sl g nL Q (pc + 1) lv (vl (jlm a b) :: st) σ) : At p l e R s m args below meth c cl sl g nL Q pc lv (vl b :: vl a :: st) σ := by
  intro H locs ls hP hS hl
  have h := k H locs ls hP hS hl
  rw [jlm, vl_t] at h
  exact lv_lmul C.1 C.2.1 hd h
def jland (a b : Int) : Int := (Int64.ofInt a &&& Int64.ofInt b).toInt
theorem jland_L (a b : Int) : inL (jland a b) := inL_t _
theorem at_land (C : Cx p R s m args c cl sl cc own nL g) {a b : Int} (hd : decode cc pc = .ok (.land, 1)) (k : At p l e R s m args below meth c cl sl g nL Q (pc + 1) lv (vl (jland a b) :: st) σ) : At p l e R s m args below meth c cl sl g nL Q pc lv (vl b :: vl a :: st) σ := by
  intro H locs ls hP hS hl
  have h := k H locs ls hP hS hl
  rw [jland, vl_t] at h
  exact lv_land C.1 C.2.1 hd h
def jld (a b : Int) : Int := (Int64.ofInt a / Int64.ofInt b).toInt
theorem jld_L (a b : Int) : inL (jld a b) := inL_t _
theorem at_ldiv (C : Cx p R s m args c cl sl cc own nL g) {a b : Int} (hd : decode cc pc = .ok (.ldiv, 1)) (hr : inL b) (h0 : ¬ b = 0) (k : At p l e R s m args below meth c cl sl g nL Q (pc + 1) lv (vl (jld a b) :: st) σ) : At p l e R s m args below meth c cl sl g nL Q pc lv (vl b :: vl a :: st) σ := by
  intro H locs ls hP hS hl
  have h := k H locs ls hP hS hl
  rw [jld, vl_t] at h
  exact lv_ldiv C.1 C.2.1 hd (fun z => h0 (by have z := congrArg Int64.toInt z; rw [t_ofL hr] at z; exact z)) h
def jlr (a b : Int) : Int := (Int64.ofInt a - Int64.ofInt a / Int64.ofInt b * Int64.ofInt b).toInt
theorem jlr_L (a b : Int) : inL (jlr a b) := inL_t _
theorem at_lrem (C : Cx p R s m args c cl sl cc own nL g) {a b : Int} (hd : decode cc pc = .ok (.lrem, 1)) (hr : inL b) (h0 : ¬ b = 0) (k : At p l e R s m args below meth c cl sl g nL Q (pc + 1) lv (vl (jlr a b) :: st) σ) : At p l e R s m args below meth c cl sl g nL Q pc lv (vl b :: vl a :: st) σ := by
  intro H locs ls hP hS hl
  have h := k H locs ls hP hS hl
  rw [jlr, vl_t] at h
  exact lv_lrem C.1 C.2.1 hd (fun z => h0 (by have z := congrArg Int64.toInt z; rw [t_ofL hr] at z; exact z)) h
def jlneg (a : Int) : Int := (-Int64.ofInt a).toInt
theorem jlneg_L (a : Int) : inL (jlneg a) := inL_t _
theorem at_lneg (C : Cx p R s m args c cl sl cc own nL g) {a : Int} (hd : decode cc pc = .ok (.lneg, 1)) (k : At p l e R s m args below meth c cl sl g nL Q (pc + 1) lv (vl (jlneg a) :: st) σ) : At p l e R s m args below meth c cl sl g nL Q pc lv (vl a :: st) σ := by
  intro H locs ls hP hS hl
  have h := k H locs ls hP hS hl
  rw [jlneg, vl_t] at h
  exact lv_lneg C.1 C.2.1 hd h
theorem at_i2l (C : Cx p R s m args c cl sl cc own nL g) {a : Int} (ha : inR a) (hd : decode cc pc = .ok (.i2l, 1)) (k : At p l e R s m args below meth c cl sl g nL Q (pc + 1) lv (vl a :: st) σ) : At p l e R s m args below meth c cl sl g nL Q pc lv (vi a :: st) σ := by
  intro H locs ls hP hS hl
  exact lv_i2l C.1 C.2.1 hd (by apply Int64.toInt_inj.mp; rw [Int32.toInt_toInt64, t_ofI ha, t_ofL ha.lo]) (k H locs ls hP hS hl)
def jl2i (a : Int) : Int := (Int64.ofInt a).toInt32.toInt
theorem jl2i_R (a : Int) : inR (jl2i a) := inR_t _
theorem at_l2i (C : Cx p R s m args c cl sl cc own nL g) {a : Int} (hd : decode cc pc = .ok (.l2i, 1)) (k : At p l e R s m args below meth c cl sl g nL Q (pc + 1) lv (vi (jl2i a) :: st) σ) : At p l e R s m args below meth c cl sl g nL Q pc lv (vl a :: st) σ := by
  intro H locs ls hP hS hl
  have h := k H locs ls hP hS hl
  rw [jl2i, vi_t] at h
  exact lv_l2i C.1 C.2.1 hd rfl h
def jlcmp (a b : Int) : Int := (lg_cmp (Int64.ofInt a) (Int64.ofInt b)).toInt
theorem jlcmp_R (a b : Int) : inR (jlcmp a b) := inR_t _
theorem at_lcmp (C : Cx p R s m args c cl sl cc own nL g) {a b : Int} (hd : decode cc pc = .ok (.lcmp, 1)) (k : At p l e R s m args below meth c cl sl g nL Q (pc + 1) lv (vi (jlcmp a b) :: st) σ) : At p l e R s m args below meth c cl sl g nL Q pc lv (vl b :: vl a :: st) σ := by
  intro H locs ls hP hS hl
  have h := k H locs ls hP hS hl
  rw [jlcmp, vi_t] at h
  exact W.lcmp C.1 C.2.1 hd h
theorem at_iconst (C : Cx p R s m args c cl sl cc own nL g) {n : Int} (hd : decode cc pc = .ok (.iconst n, 1)) (k : At p l e R s m args below meth c cl sl g nL Q (pc + 1) lv (vi n :: st) σ) : At p l e R s m args below meth c cl sl g nL Q pc lv st σ := fun H locs ls hP hS hl => lv_iconst C.1 C.2.1 hd rfl (k H locs ls hP hS hl)
theorem at_bipush (C : Cx p R s m args c cl sl cc own nL g) {n : Int} (hd : decode cc pc = .ok (.bipush n, 2)) (hn : (Int8.ofInt n).toInt32 = Int32.ofInt n) (k : At p l e R s m args below meth c cl sl g nL Q (pc + 2) lv (vi n :: st) σ) : At p l e R s m args below meth c cl sl g nL Q pc lv st σ := fun H locs ls hP hS hl => lv_bipush C.1 C.2.1 hd hn (k H locs ls hP hS hl)
theorem at_sipush (C : Cx p R s m args c cl sl cc own nL g) {n : Int} (hd : decode cc pc = .ok (.sipush n, 3)) (hn : (Int16.ofInt n).toInt32 = Int32.ofInt n) (k : At p l e R s m args below meth c cl sl g nL Q (pc + 3) lv (vi n :: st) σ) : At p l e R s m args below meth c cl sl g nL Q pc lv st σ := fun H locs ls hP hS hl => lv_sipush C.1 C.2.1 hd hn (k H locs ls hP hS hl)
theorem at_lconst0 (C : Cx p R s m args c cl sl cc own nL g) (hd : decode cc pc = .ok (.lconst 0, 1)) (k : At p l e R s m args below meth c cl sl g nL Q (pc + 1) lv (vl 0 :: st) σ) : At p l e R s m args below meth c cl sl g nL Q pc lv st σ := fun H locs ls hP hS hl => lv_lconst C.1 C.2.1 hd rfl (k H locs ls hP hS hl)
theorem at_ldc (C : Cx p R s m args c cl sl cc own nL g) {n : Int} {ix : Nat} (hd : decode cc pc = .ok (.ldc ix, 2)) (hw : Cond.constant own ix (Int32.ofInt n) ∈ lwg) (k : At p l e R s m args below meth c cl sl g nL Q (pc + 2) lv (vi n :: st) σ) : At p l e R s m args below meth c cl sl g nL Q pc lv st σ := fun H locs ls hP hS hl => lv_ldc C.1 C.2.1 C.2.2.2.1 (C.2.2.2.2.1 _ hw) hd (k H locs ls hP hS hl)
theorem at_ldc_w (C : Cx p R s m args c cl sl cc own nL g) {n : Int} {ix : Nat} (hd : decode cc pc = .ok (.ldc_w ix, 3)) (hw : Cond.constant own ix (Int32.ofInt n) ∈ lwg) (k : At p l e R s m args below meth c cl sl g nL Q (pc + 3) lv (vi n :: st) σ) : At p l e R s m args below meth c cl sl g nL Q pc lv st σ := fun H locs ls hP hS hl => lv_ldcw C.1 C.2.1 C.2.2.2.1 (C.2.2.2.2.1 _ hw) hd (k H locs ls hP hS hl)
theorem at_ldc2l (C : Cx p R s m args c cl sl cc own nL g) {n : Int} {ix : Nat} (hd : decode cc pc = .ok (.ldc2_w ix, 3)) (hw : Cond.constantLong own ix (Int64.ofInt n) ∈ lwg) (k : At p l e R s m args below meth c cl sl g nL Q (pc + 3) lv (vl n :: st) σ) : At p l e R s m args below meth c cl sl g nL Q pc lv st σ := fun H locs ls hP hS hl => lv_ldc2 C.1 C.2.1 C.2.2.2.1 (C.2.2.2.2.1 _ hw) hd (k H locs ls hP hS hl)
theorem at_ldcf (C : Cx p R s m args c cl sl cc own nL g) {n : UInt32} {ix : Nat} (hd : decode cc pc = .ok (.ldc ix, 2)) (hw : Cond.constantFloat own ix n ∈ lwg) (k : At p l e R s m args below meth c cl sl g nL Q (pc + 2) lv (.float n :: st) σ) : At p l e R s m args below meth c cl sl g nL Q pc lv st σ := fun H locs ls hP hS hl => lv_ldcf C.1 C.2.1 C.2.2.2.1 (C.2.2.2.2.1 _ hw) hd (k H locs ls hP hS hl)
theorem at_ldc2d (C : Cx p R s m args c cl sl cc own nL g) {n : UInt64} {ix : Nat} (hd : decode cc pc = .ok (.ldc2_w ix, 3)) (hw : Cond.constantDouble own ix n ∈ lwg) (k : At p l e R s m args below meth c cl sl g nL Q (pc + 3) lv (.double n :: st) σ) : At p l e R s m args below meth c cl sl g nL Q pc lv st σ := fun H locs ls hP hS hl => lv_ldc2d C.1 C.2.1 C.2.2.2.1 (C.2.2.2.2.1 _ hw) hd (k H locs ls hP hS hl)
theorem at_iload_n (C : Cx p R s m args c cl sl cc own nL g) {k : Fin 4} {i : Nat} {x : Int} (q : Nat) (hd : decode cc pc = .ok (.iload_n k, 1)) (hi : (k : Nat) = i) (hq : lv[q]? = some (i, vi x)) (kk : At p l e R s m args below meth c cl sl g nL Q (pc + 1) lv (vi x :: st) σ) : At p l e R s m args below meth c cl sl g nL Q pc lv st σ := fun H locs ls hP hS hl => lv_iload_n C.1 C.2.1 hd hi (lv_at hl q hq) (kk H locs ls hP hS hl)
theorem at_iload (C : Cx p R s m args c cl sl cc own nL g) {i : Nat} {x : Int} (q : Nat) (hd : decode cc pc = .ok (.iload i, 2)) (hq : lv[q]? = some (i, vi x)) (kk : At p l e R s m args below meth c cl sl g nL Q (pc + 2) lv (vi x :: st) σ) : At p l e R s m args below meth c cl sl g nL Q pc lv st σ := fun H locs ls hP hS hl => lv_iload C.1 C.2.1 hd (lv_at hl q hq) (kk H locs ls hP hS hl)
theorem at_istore_n (C : Cx p R s m args c cl sl cc own nL g) {k : Fin 4} {i : Nat} {x : Int} {lv' : List (Nat × Value)} (hd : decode cc pc = .ok (.istore_n k, 1)) (hi : (k : Nat) = i) (hn : i < nL) (hl0 : (i, Value.int (Int32.ofInt x)) :: lv.filter (fun q => !(q.1 == i) && !(q.1 + 1 == i && q.2.category == 2)) = lv') (kk : At p l e R s m args below meth c cl sl g nL Q (pc + 1) lv' st σ) : At p l e R s m args below meth c cl sl g nL Q pc lv (vi x :: st) σ := fun H locs ls hP hS hl => lv_istore_n C.1 C.2.1 hd hi hl hn hl0 (fun ls' hl' => kk H locs ls' hP hS hl')
theorem at_istore (C : Cx p R s m args c cl sl cc own nL g) {i : Nat} {x : Int} {lv' : List (Nat × Value)} (hd : decode cc pc = .ok (.istore i, 2)) (hn : i < nL) (hl0 : (i, Value.int (Int32.ofInt x)) :: lv.filter (fun q => !(q.1 == i) && !(q.1 + 1 == i && q.2.category == 2)) = lv') (kk : At p l e R s m args below meth c cl sl g nL Q (pc + 2) lv' st σ) : At p l e R s m args below meth c cl sl g nL Q pc lv (vi x :: st) σ := fun H locs ls hP hS hl => lv_istore C.1 C.2.1 hd hl hn hl0 (fun ls' hl' => kk H locs ls' hP hS hl')
theorem at_lload_n (C : Cx p R s m args c cl sl cc own nL g) {k : Fin 4} {i : Nat} {x : Int} (q : Nat) (hd : decode cc pc = .ok (.lload_n k, 1)) (hi : (k : Nat) = i) (hq : lv[q]? = some (i, vl x)) (kk : At p l e R s m args below meth c cl sl g nL Q (pc + 1) lv (vl x :: st) σ) : At p l e R s m args below meth c cl sl g nL Q pc lv st σ := fun H locs ls hP hS hl => lv_lload_n C.1 C.2.1 hd hi (lv_at hl q hq) (kk H locs ls hP hS hl)
theorem at_lload (C : Cx p R s m args c cl sl cc own nL g) {i : Nat} {x : Int} (q : Nat) (hd : decode cc pc = .ok (.lload i, 2)) (hq : lv[q]? = some (i, vl x)) (kk : At p l e R s m args below meth c cl sl g nL Q (pc + 2) lv (vl x :: st) σ) : At p l e R s m args below meth c cl sl g nL Q pc lv st σ := fun H locs ls hP hS hl => lv_lload C.1 C.2.1 hd (lv_at hl q hq) (kk H locs ls hP hS hl)
theorem at_lstore_n (C : Cx p R s m args c cl sl cc own nL g) {k : Fin 4} {i : Nat} {x : Int} {lv' : List (Nat × Value)} (hd : decode cc pc = .ok (.lstore_n k, 1)) (hi : (k : Nat) = i) (hn : i + 1 < nL) (hl0 : (i, Value.long (Int64.ofInt x)) :: lv.filter (fun q => !(q.1 == i) && (!(q.1 == i + 1) && !(q.1 + 1 == i && q.2.category == 2))) = lv') (kk : At p l e R s m args below meth c cl sl g nL Q (pc + 1) lv' st σ) : At p l e R s m args below meth c cl sl g nL Q pc lv (vl x :: st) σ := fun H locs ls hP hS hl => lv_lstore_n C.1 C.2.1 hd hi hl hn hl0 (fun ls' hl' => kk H locs ls' hP hS hl')
theorem at_lstore (C : Cx p R s m args c cl sl cc own nL g) {i : Nat} {x : Int} {lv' : List (Nat × Value)} (hd : decode cc pc = .ok (.lstore i, 2)) (hn : i + 1 < nL) (hl0 : (i, Value.long (Int64.ofInt x)) :: lv.filter (fun q => !(q.1 == i) && (!(q.1 == i + 1) && !(q.1 + 1 == i && q.2.category == 2))) = lv') (kk : At p l e R s m args below meth c cl sl g nL Q (pc + 2) lv' st σ) : At p l e R s m args below meth c cl sl g nL Q pc lv (vl x :: st) σ := fun H locs ls hP hS hl => lv_lstore C.1 C.2.1 hd hl hn hl0 (fun ls' hl' => kk H locs ls' hP hS hl')
theorem at_aload_n (C : Cx p R s m args c cl sl cc own nL g) {k : Fin 4} {i : Nat} {x : Nat} (q : Nat) (hd : decode cc pc = .ok (.aload_n k, 1)) (hi : (k : Nat) = i) (hq : lv[q]? = some (i, vr g x)) (kk : At p l e R s m args below meth c cl sl g nL Q (pc + 1) lv (vr g x :: st) σ) : At p l e R s m args below meth c cl sl g nL Q pc lv st σ := fun H locs ls hP hS hl => lv_aload_n C.1 C.2.1 hd hi (lv_at hl q hq) (kk H locs ls hP hS hl)
theorem at_aload (C : Cx p R s m args c cl sl cc own nL g) {i : Nat} {x : Nat} (q : Nat) (hd : decode cc pc = .ok (.aload i, 2)) (hq : lv[q]? = some (i, vr g x)) (kk : At p l e R s m args below meth c cl sl g nL Q (pc + 2) lv (vr g x :: st) σ) : At p l e R s m args below meth c cl sl g nL Q pc lv st σ := fun H locs ls hP hS hl => lv_aload C.1 C.2.1 hd (lv_at hl q hq) (kk H locs ls hP hS hl)
theorem at_astore_n (C : Cx p R s m args c cl sl cc own nL g) {k : Fin 4} {i : Nat} {x : Nat} {lv' : List (Nat × Value)} (hd : decode cc pc = .ok (.astore_n k, 1)) (hi : (k : Nat) = i) (hn : i < nL) (hl0 : (i, Value.ref (g.2.2 x)) :: lv.filter (fun q => !(q.1 == i) && !(q.1 + 1 == i && q.2.category == 2)) = lv') (kk : At p l e R s m args below meth c cl sl g nL Q (pc + 1) lv' st σ) : At p l e R s m args below meth c cl sl g nL Q pc lv (vr g x :: st) σ := fun H locs ls hP hS hl => lv_astore_n C.1 C.2.1 hd hi hl hn hl0 (fun ls' hl' => kk H locs ls' hP hS hl')
theorem at_astore (C : Cx p R s m args c cl sl cc own nL g) {i : Nat} {x : Nat} {lv' : List (Nat × Value)} (hd : decode cc pc = .ok (.astore i, 2)) (hn : i < nL) (hl0 : (i, Value.ref (g.2.2 x)) :: lv.filter (fun q => !(q.1 == i) && !(q.1 + 1 == i && q.2.category == 2)) = lv') (kk : At p l e R s m args below meth c cl sl g nL Q (pc + 2) lv' st σ) : At p l e R s m args below meth c cl sl g nL Q pc lv (vr g x :: st) σ := fun H locs ls hP hS hl => lv_astore C.1 C.2.1 hd hl hn hl0 (fun ls' hl' => kk H locs ls' hP hS hl')
theorem at_fload_n (C : Cx p R s m args c cl sl cc own nL g) {k : Fin 4} {i : Nat} {x : UInt32} (q : Nat) (hd : decode cc pc = .ok (.fload_n k, 1)) (hi : (k : Nat) = i) (hq : lv[q]? = some (i, .float x)) (kk : At p l e R s m args below meth c cl sl g nL Q (pc + 1) lv (.float x :: st) σ) : At p l e R s m args below meth c cl sl g nL Q pc lv st σ := fun H locs ls hP hS hl => lv_fload_n C.1 C.2.1 hd hi (lv_at hl q hq) (kk H locs ls hP hS hl)
theorem at_fload (C : Cx p R s m args c cl sl cc own nL g) {i : Nat} {x : UInt32} (q : Nat) (hd : decode cc pc = .ok (.fload i, 2)) (hq : lv[q]? = some (i, .float x)) (kk : At p l e R s m args below meth c cl sl g nL Q (pc + 2) lv (.float x :: st) σ) : At p l e R s m args below meth c cl sl g nL Q pc lv st σ := fun H locs ls hP hS hl => lv_fload C.1 C.2.1 hd (lv_at hl q hq) (kk H locs ls hP hS hl)
theorem at_fstore_n (C : Cx p R s m args c cl sl cc own nL g) {k : Fin 4} {i : Nat} {x : UInt32} {lv' : List (Nat × Value)} (hd : decode cc pc = .ok (.fstore_n k, 1)) (hi : (k : Nat) = i) (hn : i < nL) (hl0 : (i, Value.float x) :: lv.filter (fun q => !(q.1 == i) && !(q.1 + 1 == i && q.2.category == 2)) = lv') (kk : At p l e R s m args below meth c cl sl g nL Q (pc + 1) lv' st σ) : At p l e R s m args below meth c cl sl g nL Q pc lv (.float x :: st) σ := fun H locs ls hP hS hl => lv_fstore_n C.1 C.2.1 hd hi hl hn hl0 (fun ls' hl' => kk H locs ls' hP hS hl')
theorem at_fstore (C : Cx p R s m args c cl sl cc own nL g) {i : Nat} {x : UInt32} {lv' : List (Nat × Value)} (hd : decode cc pc = .ok (.fstore i, 2)) (hn : i < nL) (hl0 : (i, Value.float x) :: lv.filter (fun q => !(q.1 == i) && !(q.1 + 1 == i && q.2.category == 2)) = lv') (kk : At p l e R s m args below meth c cl sl g nL Q (pc + 2) lv' st σ) : At p l e R s m args below meth c cl sl g nL Q pc lv (.float x :: st) σ := fun H locs ls hP hS hl => lv_fstore C.1 C.2.1 hd hl hn hl0 (fun ls' hl' => kk H locs ls' hP hS hl')
theorem at_dload (C : Cx p R s m args c cl sl cc own nL g) {i : Nat} {x : UInt64} (q : Nat) (hd : decode cc pc = .ok (.dload i, 2)) (hq : lv[q]? = some (i, .double x)) (kk : At p l e R s m args below meth c cl sl g nL Q (pc + 2) lv (.double x :: st) σ) : At p l e R s m args below meth c cl sl g nL Q pc lv st σ := fun H locs ls hP hS hl => lv_dload C.1 C.2.1 hd (lv_at hl q hq) (kk H locs ls hP hS hl)
theorem at_dstore (C : Cx p R s m args c cl sl cc own nL g) {i : Nat} {x : UInt64} {lv' : List (Nat × Value)} (hd : decode cc pc = .ok (.dstore i, 2)) (hn : i + 1 < nL) (hl0 : (i, Value.double x) :: lv.filter (fun q => !(q.1 == i) && (!(q.1 == i + 1) && !(q.1 + 1 == i && q.2.category == 2))) = lv') (kk : At p l e R s m args below meth c cl sl g nL Q (pc + 2) lv' st σ) : At p l e R s m args below meth c cl sl g nL Q pc lv (.double x :: st) σ := fun H locs ls hP hS hl => lv_dstore C.1 C.2.1 hd hl hn hl0 (fun ls' hl' => kk H locs ls' hP hS hl')
theorem at_iinc (C : Cx p R s m args c cl sl cc own nL g) {i : Nat} {x n : Int} (q : Nat) {lv' : List (Nat × Value)} (hd : decode cc pc = .ok (.iinc i n, 3)) (hq : lv[q]? = some (i, vi x)) (hn : i < nL) (hl0 : (i, Value.int (Int32.ofInt (ja x n))) :: lv.filter (fun q => !(q.1 == i) && !(q.1 + 1 == i && q.2.category == 2)) = lv') (kk : At p l e R s m args below meth c cl sl g nL Q (pc + 3) lv' st σ) : At p l e R s m args below meth c cl sl g nL Q pc lv st σ := fun H locs ls hP hS hl => lv_iinc (v := Int32.ofInt (ja x n)) C.1 C.2.1 hd hl hq (by rw [ja, Int32.ofInt_toInt]) hn hl0 (fun ls' hl' => kk H locs ls' hP hS hl')
theorem at_sub {lv' : List (Nat × Value)} (ks : List Nat) (h : lv_pick lv ks = lv') (kk : At p l e R s m args below meth c cl sl g nL Q pc lv' st σ) : At p l e R s m args below meth c cl sl g nL Q pc lv st σ := fun H locs ls hP hS hl => kk H locs ls hP hS (lv_sub hl ks h)
theorem at_dup (C : Cx p R s m args c cl sl cc own nL g) {v : Value} (hd : decode cc pc = .ok (.dup, 1)) (hv : v.category = 1) (kk : At p l e R s m args below meth c cl sl g nL Q (pc + 1) lv (v :: v :: st) σ) : At p l e R s m args below meth c cl sl g nL Q pc lv (v :: st) σ := fun H locs ls hP hS hl => lv_dup C.1 C.2.1 hd hv (kk H locs ls hP hS hl)
theorem at_dup2 (C : Cx p R s m args c cl sl cc own nL g) {v u : Value} (hd : decode cc pc = .ok (.dup2, 1)) (hv : v.category = 1) (hu : u.category = 1) (kk : At p l e R s m args below meth c cl sl g nL Q (pc + 1) lv (v :: u :: v :: u :: st) σ) : At p l e R s m args below meth c cl sl g nL Q pc lv (v :: u :: st) σ := fun H locs ls hP hS hl => lv_dup2_11 C.1 C.2.1 hd hv hu (kk H locs ls hP hS hl)
theorem at_pop (C : Cx p R s m args c cl sl cc own nL g) {v : Value} (hd : decode cc pc = .ok (.pop, 1)) (hv : v.category = 1) (kk : At p l e R s m args below meth c cl sl g nL Q (pc + 1) lv st σ) : At p l e R s m args below meth c cl sl g nL Q pc lv (v :: st) σ := fun H locs ls hP hS hl => lv_pop C.1 C.2.1 hd hv (kk H locs ls hP hS hl)
theorem at_goto (C : Cx p R s m args c cl sl cc own nL g) {off : Int} {tgt : Nat} (hd : decode cc pc = .ok (.goto off, 3)) (ht : (pc : Int) + off = (tgt : Int)) (kk : At p l e R s m args below meth c cl sl g nL Q tgt lv st σ) : At p l e R s m args below meth c cl sl g nL Q pc lv st σ := fun H locs ls hP hS hl => lv_goto C.1 C.2.1 hd ht (kk H locs ls hP hS hl)
theorem eqI {a b : Int} (ha : inR a) (hb : inR b) : Int32.ofInt a = Int32.ofInt b ↔ a = b := ⟨fun h => by have h := congrArg Int32.toInt h; rw [t_ofI ha, t_ofI hb] at h; exact h, fun h => by rw [h]⟩
theorem ltI {a b : Int} (ha : inR a) (hb : inR b) : Int32.ofInt a < Int32.ofInt b ↔ a < b := by rw [Int32.lt_iff_toInt_lt, t_ofI ha, t_ofI hb]
theorem leI {a b : Int} (ha : inR a) (hb : inR b) : Int32.ofInt a ≤ Int32.ofInt b ↔ a ≤ b := by rw [Int32.le_iff_toInt_le, t_ofI ha, t_ofI hb]
theorem inR0 : inR 0 := ⟨by decide, by decide⟩
theorem at_icmp_eq (C : Cx p R s m args c cl sl cc own nL g) {a b : Int} {off : Int} {tgt : Nat} (ha : inR a) (hb : inR b) (hd : decode cc pc = .ok (.if_icmp .eq off, 3)) (ht : (pc : Int) + off = (tgt : Int)) (kt : a = b → At p l e R s m args below meth c cl sl g nL Q tgt lv st σ) (kf : ¬ a = b → At p l e R s m args below meth c cl sl g nL Q (pc + 3) lv st σ) : At p l e R s m args below meth c cl sl g nL Q pc lv (vi b :: vi a :: st) σ := fun H locs ls hP hS hl => lv_icmp_eq C.1 C.2.1 hd ht (fun h => kt ((eqI ha hb).mp h) H locs ls hP hS hl) (fun h => kf (fun z => h ((eqI ha hb).mpr z)) H locs ls hP hS hl)
theorem at_if_eq (C : Cx p R s m args c cl sl cc own nL g) {a : Int} {off : Int} {tgt : Nat} (ha : inR a) (hd : decode cc pc = .ok (.ifCond .eq off, 3)) (ht : (pc : Int) + off = (tgt : Int)) (kt : a = 0 → At p l e R s m args below meth c cl sl g nL Q tgt lv st σ) (kf : ¬ a = 0 → At p l e R s m args below meth c cl sl g nL Q (pc + 3) lv st σ) : At p l e R s m args below meth c cl sl g nL Q pc lv (vi a :: st) σ := fun H locs ls hP hS hl => lv_if_eq C.1 C.2.1 hd ht (fun h => kt ((eqI ha inR0).mp h) H locs ls hP hS hl) (fun h => kf (fun z => h ((eqI ha inR0).mpr z)) H locs ls hP hS hl)
theorem at_icmp_ne (C : Cx p R s m args c cl sl cc own nL g) {a b : Int} {off : Int} {tgt : Nat} (ha : inR a) (hb : inR b) (hd : decode cc pc = .ok (.if_icmp .ne off, 3)) (ht : (pc : Int) + off = (tgt : Int)) (kt : ¬ a = b → At p l e R s m args below meth c cl sl g nL Q tgt lv st σ) (kf : a = b → At p l e R s m args below meth c cl sl g nL Q (pc + 3) lv st σ) : At p l e R s m args below meth c cl sl g nL Q pc lv (vi b :: vi a :: st) σ := fun H locs ls hP hS hl => lv_icmp_ne C.1 C.2.1 hd ht (fun h => kt (fun z => h ((eqI ha hb).mpr z)) H locs ls hP hS hl) (fun h => kf ((eqI ha hb).mp (by first | exact h | exact Classical.not_not.mp h)) H locs ls hP hS hl)
theorem at_if_ne (C : Cx p R s m args c cl sl cc own nL g) {a : Int} {off : Int} {tgt : Nat} (ha : inR a) (hd : decode cc pc = .ok (.ifCond .ne off, 3)) (ht : (pc : Int) + off = (tgt : Int)) (kt : ¬ a = 0 → At p l e R s m args below meth c cl sl g nL Q tgt lv st σ) (kf : a = 0 → At p l e R s m args below meth c cl sl g nL Q (pc + 3) lv st σ) : At p l e R s m args below meth c cl sl g nL Q pc lv (vi a :: st) σ := fun H locs ls hP hS hl => lv_if_ne C.1 C.2.1 hd ht (fun h => kt (fun z => h ((eqI ha inR0).mpr z)) H locs ls hP hS hl) (fun h => kf ((eqI ha inR0).mp (by first | exact h | exact Classical.not_not.mp h)) H locs ls hP hS hl)
theorem at_icmp_lt (C : Cx p R s m args c cl sl cc own nL g) {a b : Int} {off : Int} {tgt : Nat} (ha : inR a) (hb : inR b) (hd : decode cc pc = .ok (.if_icmp .lt off, 3)) (ht : (pc : Int) + off = (tgt : Int)) (kt : a < b → At p l e R s m args below meth c cl sl g nL Q tgt lv st σ) (kf : ¬ a < b → At p l e R s m args below meth c cl sl g nL Q (pc + 3) lv st σ) : At p l e R s m args below meth c cl sl g nL Q pc lv (vi b :: vi a :: st) σ := fun H locs ls hP hS hl => lv_icmp_lt C.1 C.2.1 hd ht (fun h => kt ((ltI ha hb).mp h) H locs ls hP hS hl) (fun h => kf (fun z => h ((ltI ha hb).mpr z)) H locs ls hP hS hl)
theorem at_if_lt (C : Cx p R s m args c cl sl cc own nL g) {a : Int} {off : Int} {tgt : Nat} (ha : inR a) (hd : decode cc pc = .ok (.ifCond .lt off, 3)) (ht : (pc : Int) + off = (tgt : Int)) (kt : a < 0 → At p l e R s m args below meth c cl sl g nL Q tgt lv st σ) (kf : ¬ a < 0 → At p l e R s m args below meth c cl sl g nL Q (pc + 3) lv st σ) : At p l e R s m args below meth c cl sl g nL Q pc lv (vi a :: st) σ := fun H locs ls hP hS hl => lv_if_lt C.1 C.2.1 hd ht (fun h => kt ((ltI ha inR0).mp h) H locs ls hP hS hl) (fun h => kf (fun z => h ((ltI ha inR0).mpr z)) H locs ls hP hS hl)
theorem at_icmp_le (C : Cx p R s m args c cl sl cc own nL g) {a b : Int} {off : Int} {tgt : Nat} (ha : inR a) (hb : inR b) (hd : decode cc pc = .ok (.if_icmp .le off, 3)) (ht : (pc : Int) + off = (tgt : Int)) (kt : a ≤ b → At p l e R s m args below meth c cl sl g nL Q tgt lv st σ) (kf : ¬ a ≤ b → At p l e R s m args below meth c cl sl g nL Q (pc + 3) lv st σ) : At p l e R s m args below meth c cl sl g nL Q pc lv (vi b :: vi a :: st) σ := fun H locs ls hP hS hl => lv_icmp_le C.1 C.2.1 hd ht (fun h => kt ((leI ha hb).mp h) H locs ls hP hS hl) (fun h => kf (fun z => h ((leI ha hb).mpr z)) H locs ls hP hS hl)
theorem at_if_le (C : Cx p R s m args c cl sl cc own nL g) {a : Int} {off : Int} {tgt : Nat} (ha : inR a) (hd : decode cc pc = .ok (.ifCond .le off, 3)) (ht : (pc : Int) + off = (tgt : Int)) (kt : a ≤ 0 → At p l e R s m args below meth c cl sl g nL Q tgt lv st σ) (kf : ¬ a ≤ 0 → At p l e R s m args below meth c cl sl g nL Q (pc + 3) lv st σ) : At p l e R s m args below meth c cl sl g nL Q pc lv (vi a :: st) σ := fun H locs ls hP hS hl => lv_if_le C.1 C.2.1 hd ht (fun h => kt ((leI ha inR0).mp h) H locs ls hP hS hl) (fun h => kf (fun z => h ((leI ha inR0).mpr z)) H locs ls hP hS hl)
theorem at_icmp_gt (C : Cx p R s m args c cl sl cc own nL g) {a b : Int} {off : Int} {tgt : Nat} (ha : inR a) (hb : inR b) (hd : decode cc pc = .ok (.if_icmp .gt off, 3)) (ht : (pc : Int) + off = (tgt : Int)) (kt : b < a → At p l e R s m args below meth c cl sl g nL Q tgt lv st σ) (kf : ¬ b < a → At p l e R s m args below meth c cl sl g nL Q (pc + 3) lv st σ) : At p l e R s m args below meth c cl sl g nL Q pc lv (vi b :: vi a :: st) σ := fun H locs ls hP hS hl => lv_icmp_gt C.1 C.2.1 hd ht (fun h => kt ((ltI hb ha).mp h) H locs ls hP hS hl) (fun h => kf (fun z => h ((ltI hb ha).mpr z)) H locs ls hP hS hl)
theorem at_if_gt (C : Cx p R s m args c cl sl cc own nL g) {a : Int} {off : Int} {tgt : Nat} (ha : inR a) (hd : decode cc pc = .ok (.ifCond .gt off, 3)) (ht : (pc : Int) + off = (tgt : Int)) (kt : 0 < a → At p l e R s m args below meth c cl sl g nL Q tgt lv st σ) (kf : ¬ 0 < a → At p l e R s m args below meth c cl sl g nL Q (pc + 3) lv st σ) : At p l e R s m args below meth c cl sl g nL Q pc lv (vi a :: st) σ := fun H locs ls hP hS hl => lv_if_gt C.1 C.2.1 hd ht (fun h => kt ((ltI inR0 ha).mp h) H locs ls hP hS hl) (fun h => kf (fun z => h ((ltI inR0 ha).mpr z)) H locs ls hP hS hl)
theorem at_icmp_ge (C : Cx p R s m args c cl sl cc own nL g) {a b : Int} {off : Int} {tgt : Nat} (ha : inR a) (hb : inR b) (hd : decode cc pc = .ok (.if_icmp .ge off, 3)) (ht : (pc : Int) + off = (tgt : Int)) (kt : b ≤ a → At p l e R s m args below meth c cl sl g nL Q tgt lv st σ) (kf : ¬ b ≤ a → At p l e R s m args below meth c cl sl g nL Q (pc + 3) lv st σ) : At p l e R s m args below meth c cl sl g nL Q pc lv (vi b :: vi a :: st) σ := fun H locs ls hP hS hl => lv_icmp_ge C.1 C.2.1 hd ht (fun h => kt ((leI hb ha).mp h) H locs ls hP hS hl) (fun h => kf (fun z => h ((leI hb ha).mpr z)) H locs ls hP hS hl)
theorem at_if_ge (C : Cx p R s m args c cl sl cc own nL g) {a : Int} {off : Int} {tgt : Nat} (ha : inR a) (hd : decode cc pc = .ok (.ifCond .ge off, 3)) (ht : (pc : Int) + off = (tgt : Int)) (kt : 0 ≤ a → At p l e R s m args below meth c cl sl g nL Q tgt lv st σ) (kf : ¬ 0 ≤ a → At p l e R s m args below meth c cl sl g nL Q (pc + 3) lv st σ) : At p l e R s m args below meth c cl sl g nL Q pc lv (vi a :: st) σ := fun H locs ls hP hS hl => lv_if_ge C.1 C.2.1 hd ht (fun h => kt ((leI inR0 ha).mp h) H locs ls hP hS hl) (fun h => kf (fun z => h ((leI inR0 ha).mpr z)) H locs ls hP hS hl)
theorem at_tout (C : Cx p R s m args c cl sl cc own nL g) {a dflt lo hi : Int} {offs : Array Int} {len tgt : Nat} (ha : inR a) (hd : decode cc pc = .ok (.tableswitch dflt lo hi offs, len)) (h : a < lo ∨ hi < a) (ht : (pc : Int) + dflt = (tgt : Int)) (kk : At p l e R s m args below meth c cl sl g nL Q tgt lv st σ) : At p l e R s m args below meth c cl sl g nL Q pc lv (vi a :: st) σ := fun H locs ls hP hS hl => lv_tableOut C.1 C.2.1 hd (by rw [t_ofI ha]; exact h) ht (kk H locs ls hP hS hl)
theorem at_tin (C : Cx p R s m args c cl sl cc own nL g) {a dflt lo hi off : Int} {offs : Array Int} {len tgt : Nat} (hd : decode cc pc = .ok (.tableswitch dflt lo hi offs, len)) (ha : inR a) (h1 : ¬ a < lo) (h2 : ¬ hi < a) (ho : offs[(a - lo).toNat]? = some off) (ht : (pc : Int) + off = (tgt : Int)) (kk : At p l e R s m args below meth c cl sl g nL Q tgt lv st σ) : At p l e R s m args below meth c cl sl g nL Q pc lv (vi a :: st) σ := fun H locs ls hP hS hl => lv_tableIn C.1 C.2.1 hd (by rw [t_ofI ha]; exact h1) (by rw [t_ofI ha]; exact h2) (by rw [t_ofI ha]; exact ho) ht (kk H locs ls hP hS hl)
theorem at_fadd (C : Cx p R s m args c cl sl cc own nL g) {a b : UInt32} (hd : decode cc pc = .ok (.fadd, 1)) (hn : vf_n32 (FP.fadd a b)) (kk : At p l e R s m args below meth c cl sl g nL Q (pc + 1) lv (.float (FP.fadd a b) :: st) σ) : At p l e R s m args below meth c cl sl g nL Q pc lv (.float b :: .float a :: st) σ := fun H locs ls hP hS hl => lv_fadd C.1 C.2.1 hd hn (kk H locs ls hP hS hl)
theorem at_fsub (C : Cx p R s m args c cl sl cc own nL g) {a b : UInt32} (hd : decode cc pc = .ok (.fsub, 1)) (hn : vf_n32 (FP.fsub a b)) (kk : At p l e R s m args below meth c cl sl g nL Q (pc + 1) lv (.float (FP.fsub a b) :: st) σ) : At p l e R s m args below meth c cl sl g nL Q pc lv (.float b :: .float a :: st) σ := fun H locs ls hP hS hl => lv_fsub C.1 C.2.1 hd hn (kk H locs ls hP hS hl)
theorem at_fmul (C : Cx p R s m args c cl sl cc own nL g) {a b : UInt32} (hd : decode cc pc = .ok (.fmul, 1)) (hn : vf_n32 (FP.fmul a b)) (kk : At p l e R s m args below meth c cl sl g nL Q (pc + 1) lv (.float (FP.fmul a b) :: st) σ) : At p l e R s m args below meth c cl sl g nL Q pc lv (.float b :: .float a :: st) σ := fun H locs ls hP hS hl => lv_fmul C.1 C.2.1 hd hn (kk H locs ls hP hS hl)
theorem at_fdiv (C : Cx p R s m args c cl sl cc own nL g) {a b : UInt32} (hd : decode cc pc = .ok (.fdiv, 1)) (hn : vf_n32 (FP.fdiv a b)) (kk : At p l e R s m args below meth c cl sl g nL Q (pc + 1) lv (.float (FP.fdiv a b) :: st) σ) : At p l e R s m args below meth c cl sl g nL Q pc lv (.float b :: .float a :: st) σ := fun H locs ls hP hS hl => lv_fdiv C.1 C.2.1 hd hn (kk H locs ls hP hS hl)
theorem at_dadd (C : Cx p R s m args c cl sl cc own nL g) {a b : UInt64} (hd : decode cc pc = .ok (.dadd, 1)) (hn : vf_n64 (FP.dadd a b)) (kk : At p l e R s m args below meth c cl sl g nL Q (pc + 1) lv (.double (FP.dadd a b) :: st) σ) : At p l e R s m args below meth c cl sl g nL Q pc lv (.double b :: .double a :: st) σ := fun H locs ls hP hS hl => lv_dadd C.1 C.2.1 hd hn (kk H locs ls hP hS hl)
theorem at_dmul (C : Cx p R s m args c cl sl cc own nL g) {a b : UInt64} (hd : decode cc pc = .ok (.dmul, 1)) (hn : vf_n64 (FP.dmul a b)) (kk : At p l e R s m args below meth c cl sl g nL Q (pc + 1) lv (.double (FP.dmul a b) :: st) σ) : At p l e R s m args below meth c cl sl g nL Q pc lv (.double b :: .double a :: st) σ := fun H locs ls hP hS hl => lv_dmul C.1 C.2.1 hd hn (kk H locs ls hP hS hl)
theorem at_f2d (C : Cx p R s m args c cl sl cc own nL g) {a : UInt32} (hd : decode cc pc = .ok (.f2d, 1)) (hn : vf_n64 (FP.f2d a)) (kk : At p l e R s m args below meth c cl sl g nL Q (pc + 1) lv (.double (FP.f2d a) :: st) σ) : At p l e R s m args below meth c cl sl g nL Q pc lv (.float a :: st) σ := fun H locs ls hP hS hl => lv_f2d C.1 C.2.1 hd hn (kk H locs ls hP hS hl)
def jfcmp (a b : UInt32) (op : CmpOp) : Int := (Op.cmpValue (FP.fcmp a b) op).toInt
theorem jfcmp_R (a b : UInt32) (op : CmpOp) : inR (jfcmp a b op) := inR_t _
theorem at_fcmp (C : Cx p R s m args c cl sl cc own nL g) {a b : UInt32} {op : CmpOp} (hd : decode cc pc = .ok (.fcmp op, 1)) (k : At p l e R s m args below meth c cl sl g nL Q (pc + 1) lv (vi (jfcmp a b op) :: st) σ) : At p l e R s m args below meth c cl sl g nL Q pc lv (.float b :: .float a :: st) σ := by
  intro H locs ls hP hS hl
  have h := k H locs ls hP hS hl
  rw [jfcmp, vi_t] at h
  exact lv_fcmp C.1 C.2.1 hd h
def ji2f (a : Int) : UInt32 := FP.i2f (Int32.ofInt a)
theorem at_i2f (C : Cx p R s m args c cl sl cc own nL g) {a : Int} (hd : decode cc pc = .ok (.i2f, 1)) (k : At p l e R s m args below meth c cl sl g nL Q (pc + 1) lv (.float (ji2f a) :: st) σ) : At p l e R s m args below meth c cl sl g nL Q pc lv (vi a :: st) σ := fun H locs ls hP hS hl => lv_i2f C.1 C.2.1 hd (k H locs ls hP hS hl)
def jf2i (a : UInt32) : Int := (FP.f2i a).toInt
theorem jf2i_R (a : UInt32) : inR (jf2i a) := inR_t _
theorem at_f2i (C : Cx p R s m args c cl sl cc own nL g) {a : UInt32} (hd : decode cc pc = .ok (.f2i, 1)) (k : At p l e R s m args below meth c cl sl g nL Q (pc + 1) lv (vi (jf2i a) :: st) σ) : At p l e R s m args below meth c cl sl g nL Q pc lv (.float a :: st) σ := by
  intro H locs ls hP hS hl
  have h := k H locs ls hP hS hl
  rw [jf2i, vi_t] at h
  exact lv_f2i C.1 C.2.1 hd h
def jd2i (a : UInt64) : Int := (FP.d2i a).toInt
theorem jd2i_R (a : UInt64) : inR (jd2i a) := inR_t _
theorem at_d2i (C : Cx p R s m args c cl sl cc own nL g) {a : UInt64} (hd : decode cc pc = .ok (.d2i, 1)) (k : At p l e R s m args below meth c cl sl g nL Q (pc + 1) lv (vi (jd2i a) :: st) σ) : At p l e R s m args below meth c cl sl g nL Q pc lv (.double a :: st) σ := by
  intro H locs ls hP hS hl
  have h := k H locs ls hP hS hl
  rw [jd2i, vi_t] at h
  exact lv_d2i C.1 C.2.1 hd h
theorem at_fconst0 (C : Cx p R s m args c cl sl cc own nL g) (hd : decode cc pc = .ok (.fconst 0, 1)) (k : At p l e R s m args below meth c cl sl g nL Q (pc + 1) lv (.float FP.fconst0 :: st) σ) : At p l e R s m args below meth c cl sl g nL Q pc lv st σ := fun H locs ls hP hS hl => lv_fconst0 C.1 C.2.1 hd (k H locs ls hP hS hl)
theorem at_fconst1 (C : Cx p R s m args c cl sl cc own nL g) (hd : decode cc pc = .ok (.fconst 1, 1)) (k : At p l e R s m args below meth c cl sl g nL Q (pc + 1) lv (.float FP.fconst1 :: st) σ) : At p l e R s m args below meth c cl sl g nL Q pc lv st σ := fun H locs ls hP hS hl => lv_fconst1 C.1 C.2.1 hd (k H locs ls hP hS hl)
theorem at_fconst2 (C : Cx p R s m args c cl sl cc own nL g) (hd : decode cc pc = .ok (.fconst 2, 1)) (k : At p l e R s m args below meth c cl sl g nL Q (pc + 1) lv (.float FP.fconst2 :: st) σ) : At p l e R s m args below meth c cl sl g nL Q pc lv st σ := fun H locs ls hP hS hl => lv_fconst2 C.1 C.2.1 hd (k H locs ls hP hS hl)
theorem lt_np (C : Cx p R s m args c cl sl cc own nL g) {k : Nat} (h : k < 113) : k < npo g := Nat.lt_of_lt_of_le h C.2.2.2.2.2.2.1.1.1
theorem ci_lt {ci : Nat} {q : vw_C} (h : vwCl[ci]? = some q) : ci < 13 := (List.getElem?_eq_some_iff.mp h).1
theorem knd_n {k t n : Nat} (h : knd k = (t, n)) : n ≤ 4600 := by
  have a : ∀ i, i < 114 → (knd i).2 ≤ 4600 := by decide +kernel
  rcases Nat.lt_or_ge k NP with q | q
  · have := a k q
    rw [h] at this
    exact this
  · rw [knd_out q] at h
    have h2 : 0 = n := congrArg Prod.snd h
    omega
theorem clampI {i : Int} {n : Nat} (hi : 0 ≤ i ∧ i < n) (hn : n ≤ 4600) : (Int32.ofInt i).toNatClampNeg = i.toNat := Int32.toNatClampNeg_ofInt_of_le (by omega) (by omega)
theorem vpin {i : Int} {n : Nat} (hi : 0 ≤ i ∧ i < n) (hn : n ≤ 4600) : vp_in (Int32.ofInt i) n := by
  rintro (h | h)
  · rw [Int32.lt_iff_toInt_lt, t_ofI ⟨by omega, by omega⟩] at h
    have h : i < 0 := h
    omega
  · rw [clampI hi hn] at h
    omega
theorem cell_i {g : Geo} {σ : Sto} {k n : Nat} (h : knd k = (0, n)) : cellE g σ k = .inl (g.2.1.1, n, .inl (fun j : Nat => Int32.ofInt (σ.1 k j))) := by
  unfold cellE; rw [h]; rfl
theorem cell_b {g : Geo} {σ : Sto} {k n : Nat} (h : knd k = (1, n)) : cellE g σ k = .inl (g.2.1.2.1, n, .inl (fun j : Nat => Int32.ofInt (σ.1 k j))) := by
  unfold cellE; rw [h]; rfl
theorem cell_f {g : Geo} {σ : Sto} {k n : Nat} (h : knd k = (2, n)) : cellE g σ k = .inl (g.2.1.2.2.1, n, .inr (.inr (.inl (fun j : Nat => fb (σ.2 k j))))) := by
  unfold cellE; rw [h]; rfl
theorem cell_l {g : Geo} {σ : Sto} {k n : Nat} (h : knd k = (3, n)) : cellE g σ k = .inl (g.2.1.2.2.2, n, .inr (.inl (fun j : Nat => Int64.ofInt (σ.2 k j)))) := by
  unfold cellE; rw [h]; rfl
theorem cell_o {g : Geo} {σ : Sto} {k t ci n : Nat} (h : knd k = (t, n)) (ht : t = 10 + ci) : cellE g σ k = .inr (ci, (List.range n).map (fval g σ k ci)) := by
  subst ht
  unfold cellE
  rw [h]
  show (if 10 + ci = 0 then _ else if 10 + ci = 1 then _ else if 10 + ci = 2 then _ else if 10 + ci = 3 then _ else Sum.inr (10 + ci - 10, _)) = _
  rw [if_neg (by omega), if_neg (by omega), if_neg (by omega), if_neg (by omega)]
  rw [show 10 + ci - 10 = ci by omega]
theorem at_iaload (C : Cx p R s m args c cl sl cc own nL g) {k n : Nat} {i : Int} (hk : knd k = (0, n)) (hi : 0 ≤ i ∧ i < n) (hd : decode cc pc = .ok (.iaload, 1)) (kk : At p l e R s m args below meth c cl sl g nL Q (pc + 1) lv (vi (σ.1 k i) :: st) σ) : At p l e R s m args below meth c cl sl g nL Q pc lv (vi i :: vr g k :: st) σ := by
  intro H locs ls hP hS hl
  have e0 := wd_at (g := g) (σ := σ) (lt_np C (knd_np hk (by decide) (by decide)))
  rw [cell_i hk] at e0
  refine va_iald C.1 C.2.1 C.2.2.2.2.2.1 hP k 0 e0 rfl (vpin hi (knd_n hk)) hd ?_
  show W p l e R s m args below meth c H locs cl sl Q (F0 m (pc + 1) ls (.int (Int32.ofInt (σ.1 k (((Int32.ofInt i).toNatClampNeg : Nat) : Int))) :: st))
  rw [clampI hi (knd_n hk), Int.toNat_of_nonneg hi.1]
  exact kk H locs ls hP hS hl
theorem at_baload (C : Cx p R s m args c cl sl cc own nL g) {k n : Nat} {i : Int} (hk : knd k = (1, n)) (hi : 0 ≤ i ∧ i < n) (hd : decode cc pc = .ok (.baload, 1)) (kk : At p l e R s m args below meth c cl sl g nL Q (pc + 1) lv (vi (σ.1 k i) :: st) σ) : At p l e R s m args below meth c cl sl g nL Q pc lv (vi i :: vr g k :: st) σ := by
  intro H locs ls hP hS hl
  have e0 := wd_at (g := g) (σ := σ) (lt_np C (knd_np hk (by decide) (by decide)))
  rw [cell_b hk] at e0
  refine va_bald C.1 C.2.1 C.2.2.2.2.2.1 hP k 1 e0 rfl (vpin hi (knd_n hk)) hd ?_
  show W p l e R s m args below meth c H locs cl sl Q (F0 m (pc + 1) ls (.int (Int32.ofInt (σ.1 k (((Int32.ofInt i).toNatClampNeg : Nat) : Int))) :: st))
  rw [clampI hi (knd_n hk), Int.toNat_of_nonneg hi.1]
  exact kk H locs ls hP hS hl
theorem at_faload (C : Cx p R s m args c cl sl cc own nL g) {k n : Nat} {i : Int} (hk : knd k = (2, n)) (hi : 0 ≤ i ∧ i < n) (hd : decode cc pc = .ok (.faload, 1)) (kk : At p l e R s m args below meth c cl sl g nL Q (pc + 1) lv (.float (fb (σ.2 k i)) :: st) σ) : At p l e R s m args below meth c cl sl g nL Q pc lv (vi i :: vr g k :: st) σ := by
  intro H locs ls hP hS hl
  have e0 := wd_at (g := g) (σ := σ) (lt_np C (knd_np hk (by decide) (by decide)))
  rw [cell_f hk] at e0
  refine va_fald C.1 C.2.1 C.2.2.2.2.2.1 hP k 2 e0 rfl (vpin hi (knd_n hk)) hd ?_
  show W p l e R s m args below meth c H locs cl sl Q (F0 m (pc + 1) ls (.float (fb (σ.2 k (((Int32.ofInt i).toNatClampNeg : Nat) : Int))) :: st))
  rw [clampI hi (knd_n hk), Int.toNat_of_nonneg hi.1]
  exact kk H locs ls hP hS hl
theorem upI_other {σ : Sto} {k : Nat} {j v : Int} : ∀ a, a ≠ k → (∀ i, σ.1 a i = (upI σ k j v).1 a i) ∧ ∀ i, σ.2 a i = (upI σ k j v).2 a i := by
  intro a ha
  refine ⟨fun i => ?_, fun i => rfl⟩
  show _ = if a = k ∧ i = j then v else σ.1 a i
  rw [if_neg (fun z => ha z.1)]
theorem upF_other {σ : Sto} {k : Nat} {j v : Int} : ∀ a, a ≠ k → (∀ i, σ.1 a i = (upF σ k j v).1 a i) ∧ ∀ i, σ.2 a i = (upF σ k j v).2 a i := by
  intro a ha
  refine ⟨fun i => rfl, fun i => ?_⟩
  show _ = if a = k ∧ i = j then v else σ.2 a i
  rw [if_neg (fun z => ha z.1)]
theorem upd_up {σ : Sto} {k : Nat} {i v : Int} (hi : 0 ≤ i) : upd (fun j : Nat => Int32.ofInt (σ.1 k j)) i.toNat (Int32.ofInt v) = fun j : Nat => Int32.ofInt ((upI σ k i v).1 k j) := by
  funext j
  show (if j = i.toNat then _ else _) = Int32.ofInt (if k = k ∧ (j : Int) = i then v else σ.1 k j)
  by_cases h : j = i.toNat
  · rw [if_pos h, if_pos ⟨rfl, by omega⟩]
  · rw [if_neg h, if_neg (fun z => h (by omega))]
theorem at_iastore (C : Cx p R s m args c cl sl cc own nL g) {k n : Nat} {i v : Int} (hk : knd k = (0, n)) (hi : 0 ≤ i ∧ i < n) (hd : decode cc pc = .ok (.iastore, 1)) (kk : At p l e R s m args below meth c cl sl g nL Q (pc + 1) lv st (upI σ k i v)) : At p l e R s m args below meth c cl sl g nL Q pc lv (vi v :: vi i :: vr g k :: st) σ := by
  intro H locs ls hP hS hl
  have e0 := wd_at (g := g) (σ := σ) (lt_np C (knd_np hk (by decide) (by decide)))
  rw [cell_i hk] at e0
  refine va_iast C.1 C.2.1 C.2.2.2.2.2.1 hP (wd_D C.2.2.2.2.2.2.1) hS k 0 e0 rfl (vpin hi (knd_n hk)) hd (fun H1 locs1 hP1 _ hS1 => ?_)
  rw [clampI hi (knd_n hk), upd_up hi.1, ← cell_i hk, wd_set upI_other] at hP1
  exact kk H1 locs1 ls hP1 hS1 hl
theorem nar_b (a : Int) : vp_nar .byte (Int32.ofInt (ji2b a)) = Int32.ofInt (ji2b a) := by
  show ((Int32.ofInt (ji2b a)).toInt8.toInt32) = _
  rw [ji2b, Int32.ofInt_toInt, Int8.toInt8_toInt32]
theorem at_bastore (C : Cx p R s m args c cl sl cc own nL g) {k n : Nat} {i v : Int} (hk : knd k = (1, n)) (hi : 0 ≤ i ∧ i < n) (hd : decode cc pc = .ok (.bastore, 1)) (kk : At p l e R s m args below meth c cl sl g nL Q (pc + 1) lv st (upI σ k i (ji2b v))) : At p l e R s m args below meth c cl sl g nL Q pc lv (vi (ji2b v) :: vi i :: vr g k :: st) σ := by
  intro H locs ls hP hS hl
  have e0 := wd_at (g := g) (σ := σ) (lt_np C (knd_np hk (by decide) (by decide)))
  rw [cell_b hk] at e0
  refine va_bast C.1 C.2.1 C.2.2.2.2.2.1 hP (wd_D C.2.2.2.2.2.2.1) hS k 1 e0 rfl (vpin hi (knd_n hk)) hd (fun H1 locs1 hP1 _ hS1 => ?_)
  rw [clampI hi (knd_n hk), nar_b, upd_up hi.1, ← cell_b hk, wd_set upI_other] at hP1
  exact kk H1 locs1 ls hP1 hS1 hl
theorem at_fastore (C : Cx p R s m args c cl sl cc own nL g) {k n : Nat} {i : Int} {v : UInt32} (hk : knd k = (2, n)) (hi : 0 ≤ i ∧ i < n) (hd : decode cc pc = .ok (.fastore, 1)) (kk : At p l e R s m args below meth c cl sl g nL Q (pc + 1) lv st (upF σ k i (v.toNat : Int))) : At p l e R s m args below meth c cl sl g nL Q pc lv (.float v :: vi i :: vr g k :: st) σ := by
  intro H locs ls hP hS hl
  have e0 := wd_at (g := g) (σ := σ) (lt_np C (knd_np hk (by decide) (by decide)))
  rw [cell_f hk] at e0
  refine va_fast C.1 C.2.1 C.2.2.2.2.2.1 hP (wd_D C.2.2.2.2.2.2.1) hS k 2 e0 rfl (vpin hi (knd_n hk)) hd (fun H1 locs1 hP1 _ hS1 => ?_)
  have e1 : vf_upd (fun j : Nat => fb (σ.2 k j)) i.toNat v = fun j : Nat => fb ((upF σ k i (v.toNat : Int)).2 k j) := by
    funext j
    show (if j = i.toNat then _ else _) = fb (if k = k ∧ (j : Int) = i then (v.toNat : Int) else σ.2 k j)
    by_cases h : j = i.toNat
    · rw [if_pos h, if_pos ⟨rfl, by omega⟩, fb_t]
    · rw [if_neg h, if_neg (fun z => h (by omega))]
  rw [clampI hi (knd_n hk), e1, ← cell_f hk, wd_set upF_other] at hP1
  exact kk H1 locs1 ls hP1 hS1 hl
theorem at_alen (C : Cx p R s m args c cl sl cc own nL g) {k n : Nat} (hk : knd k = (0, n)) {nz : Int} (hz : (n : Int) = nz) (hd : decode cc pc = .ok (.arraylength, 1)) (kk : At p l e R s m args below meth c cl sl g nL Q (pc + 1) lv (vi nz :: st) σ) : At p l e R s m args below meth c cl sl g nL Q pc lv (vr g k :: st) σ := by
  intro H locs ls hP hS hl
  have e0 := wd_at (g := g) (σ := σ) (lt_np C (knd_np hk (by decide) (by decide)))
  rw [cell_i hk] at e0
  subst hz
  exact va_alen C.1 C.2.1 C.2.2.2.2.2.1 hP k 0 e0 rfl (by rfl) hd (kk H locs ls hP hS hl)
theorem at_lwget (C : Cx p R s m args c cl sl cc RX8 nL g) {ix : Nat} (hw : Cond.fieldLink RX8 ix RX8 "LINE_WORDS" "[I" ∈ lwg) (hd : decode cc pc = .ok (.getstatic ix, 3)) (kk : At p l e R s m args below meth c cl sl g nL Q (pc + 3) lv (vr g 200 :: st) σ) : At p l e R s m args below meth c cl sl g nL Q pc lv st σ := fun H locs ls hP hS hl => va_gets C.1 C.2.1 C.2.2.2.2.2.2.2.1.1 hS C.2.2.2.1 (C.2.2.2.2.1 _ hw) (fun _ h => h) hd (kk H locs ls hP hS hl)
theorem at_lwlen (C : Cx p R s m args c cl sl cc own nL g) (hd : decode cc pc = .ok (.arraylength, 1)) (kk : At p l e R s m args below meth c cl sl g nL Q (pc + 1) lv (vi 7 :: st) σ) : At p l e R s m args below meth c cl sl g nL Q pc lv (vr g 200 :: st) σ := fun H locs ls hP hS hl => va_tlen C.1 C.2.1 C.2.2.2.2.2.2.2.1.2 hS (by rfl) hd (kk H locs ls hP hS hl)
theorem at_lwld (C : Cx p R s m args c cl sl cc own nL g) {i : Int} (hi : 0 ≤ i ∧ i < (7 : Nat)) (hd : decode cc pc = .ok (.iaload, 1)) (kk : At p l e R s m args below meth c cl sl g nL Q (pc + 1) lv (vi (lwd i) :: st) σ) : At p l e R s m args below meth c cl sl g nL Q pc lv (vi i :: vr g 200 :: st) σ := fun H locs ls hP hS hl => va_ti C.1 C.2.1 C.2.2.2.2.2.2.2.1.2 hS (vpin hi (by decide)) (by
  show vi (lwd (((Int32.ofInt i).toNatClampNeg : Nat) : Int)) = vi (lwd i)
  rw [clampI hi (by decide), Int.toNat_of_nonneg hi.1]) hd (kk H locs ls hP hS hl)
/-! fields -/
def FW (own : String) (ix ci j : Nat) : Prop := ∃ (Cn : String) (T : u_T) (n : Nat), vwCl[ci]? = some (Cn, T, n) ∧ j < n ∧ (∀ w ∈ u_ws Cn T n, w ∈ lwg) ∧ Cond.fieldLink own ix (T j).1 (T j).2.1 (T j).2.2.1 ∈ lwg
def FU (own : String) (ix ci j : Nat) (ty : FieldType) : Prop := ∃ (Cn : String) (T : u_T) (n : Nat) (ty0 : Nat → FieldType), vwCl[ci]? = some (Cn, T, n) ∧ j < n ∧ (∀ w ∈ u_ws Cn T n, w ∈ lwg) ∧ Cond.fieldLink own ix (T j).1 (T j).2.1 (T j).2.2.1 ∈ lwg ∧ (∀ k, k < n → parseFieldDescriptor (T k).2.2.1 = some (ty0 k)) ∧ (∀ a, a < n → ∀ b, b < n → a ≠ b → (T a).2.1 ≠ (T b).2.1) ∧ (T j).2.2.2 = false ∧ parseFieldDescriptor (T j).2.2.1 = some ty
theorem at_get (C : Cx p R s m args c cl sl cc own nL g) {k t n ci j ix : Nat} {v : Value} (F : FW own ix ci j) (hk : knd k = (t, n)) (ht : t = 10 + ci) (hj : j < n) (hv : fval g σ k ci j = v) (hd : decode cc pc = .ok (.getfield ix, 3)) (kk : At p l e R s m args below meth c cl sl g nL Q (pc + 3) lv (v :: st) σ) : At p l e R s m args below meth c cl sl g nL Q pc lv (vr g k :: st) σ := by
  intro H locs ls hP hS hl
  obtain ⟨Cn, T, n', h1, h2, h3, h4⟩ := F
  have e0 := wd_at (g := g) (σ := σ) (lt_np C (knd_np hk (by have := ci_lt h1; omega) (by omega)))
  rw [cell_o hk ht] at e0
  exact va_get C.1 C.2.1 C.2.2.2.2.1 h3 C.2.2.2.1 C.2.2.2.2.2.1 hP k e0 h1 j h2 (C.2.2.2.2.1 _ h4) (fun _ h => h) (by rw [List.getElem?_map, List.getElem?_range hj, ← hv]; rfl) hd (kk H locs ls hP hS hl)
theorem at_geti (C : Cx p R s m args c cl sl cc own nL g) {k t n ci j ix : Nat} (F : FW own ix ci j) (hk : knd k = (t, n)) (ht : t = 10 + ci) (hj : j < n) (hf : fld ci j = (0, 0)) {jz : Int} (hz : (j : Int) = jz) (hd : decode cc pc = .ok (.getfield ix, 3)) (kk : At p l e R s m args below meth c cl sl g nL Q (pc + 3) lv (vi (σ.1 k jz) :: st) σ) : At p l e R s m args below meth c cl sl g nL Q pc lv (vr g k :: st) σ := at_get C F hk ht hj (by subst hz; unfold fval; rw [hf]; rfl) hd kk
theorem at_getr (C : Cx p R s m args c cl sl cc own nL g) {k t n ci j ix k' : Nat} (d : Nat) (F : FW own ix ci j) (hk : knd k = (t, n)) (ht : t = 10 + ci) (hj : j < n) (hf : fld ci j = (1, d)) (hk' : k + d = k') (hd : decode cc pc = .ok (.getfield ix, 3)) (kk : At p l e R s m args below meth c cl sl g nL Q (pc + 3) lv (vr g k' :: st) σ) : At p l e R s m args below meth c cl sl g nL Q pc lv (vr g k :: st) σ := at_get C F hk ht hj (by unfold fval; rw [hf, ← hk']; rfl) hd kk
theorem at_getd (C : Cx p R s m args c cl sl cc own nL g) {k t n ci j ix : Nat} (F : FW own ix ci j) (hk : knd k = (t, n)) (ht : t = 10 + ci) (hj : j < n) (hf : fld ci j = (2, 0)) {jz : Int} {k2 : Nat} (hz : (j : Int) = jz) (h2 : (σ.1 k jz).toNat = k2) (hd : decode cc pc = .ok (.getfield ix, 3)) (kk : At p l e R s m args below meth c cl sl g nL Q (pc + 3) lv (vr g k2 :: st) σ) : At p l e R s m args below meth c cl sl g nL Q pc lv (vr g k :: st) σ := at_get C F hk ht hj (by subst hz; subst h2; unfold fval; rw [hf]; rfl) hd kk
theorem at_getl (C : Cx p R s m args c cl sl cc own nL g) {k t n ci j ix : Nat} (F : FW own ix ci j) (hk : knd k = (t, n)) (ht : t = 10 + ci) (hj : j < n) (hf : fld ci j = (3, 0)) {jz : Int} (hz : (j : Int) = jz) (hd : decode cc pc = .ok (.getfield ix, 3)) (kk : At p l e R s m args below meth c cl sl g nL Q (pc + 3) lv (vl (σ.2 k jz) :: st) σ) : At p l e R s m args below meth c cl sl g nL Q pc lv (vr g k :: st) σ := at_get C F hk ht hj (by subst hz; unfold fval; rw [hf]; rfl) hd kk
theorem fmap_set {g : Geo} {σ σ' : Sto} {k ci n j : Nat} {v : Value} (hj : j < n) (h1 : ∀ i : Nat, i ≠ j → fval g σ k ci i = fval g σ' k ci i) (h2 : fval g σ' k ci j = v) : ((List.range n).map (fval g σ k ci)).set j v = (List.range n).map (fval g σ' k ci) := by
  apply List.ext_getElem?
  intro i
  rw [List.getElem?_set]
  by_cases e : j = i
  · subst e
    rw [if_pos rfl, if_pos (by rw [List.length_map, List.length_range]; exact hj), List.getElem?_map, List.getElem?_range hj, ← h2]; rfl
  · rw [if_neg e, List.getElem?_map, List.getElem?_map]
    rcases Nat.lt_or_ge i n with hi | hi
    · rw [List.getElem?_range hi]
      exact congrArg some (h1 i (fun z => e z.symm))
    · rw [List.getElem?_eq_none (by rw [List.length_range]; exact hi)]
      rfl
theorem at_put (C : Cx p R s m args c cl sl cc own nL g) {k t n ci j ix : Nat} {v : Value} {ty : FieldType} {σ' : Sto} (F : FU own ix ci j ty) (hk : knd k = (t, n)) (ht : t = 10 + ci) (hj : j < n) (ho : ∀ a, a ≠ k → (∀ i, σ.1 a i = σ'.1 a i) ∧ ∀ i, σ.2 a i = σ'.2 a i) (h1 : ∀ i : Nat, i ≠ j → fval g σ k ci i = fval g σ' k ci i) (h2 : fval g σ' k ci j = v) (hna : narrow ty v = v) (hfi : fits ty v = true) (hd : decode cc pc = .ok (.putfield ix, 3)) (kk : At p l e R s m args below meth c cl sl g nL Q (pc + 3) lv st σ') : At p l e R s m args below meth c cl sl g nL Q pc lv (v :: vr g k :: st) σ := by
  intro H locs ls hP hS hl
  obtain ⟨Cn, T, n', ty0, a1, a2, a3, a4, a5, a6, a7, a8⟩ := F
  have e0 := wd_at (g := g) (σ := σ) (lt_np C (knd_np hk (by have := ci_lt a1; omega) (by omega)))
  rw [cell_o hk ht] at e0
  refine va_put C.1 C.2.1 C.2.2.2.2.1 a3 ty0 a5 a6 C.2.2.2.1 C.2.2.2.2.2.1 hP (wd_D C.2.2.2.2.2.2.1) hS k e0 a1 j a2 (C.2.2.2.2.1 _ a4) (fun _ h => h) a7 a8 hna hfi (by rw [List.length_map, List.length_range]; exact hj) hd (fun H1 locs1 hP1 _ hS1 => ?_)
  rw [fmap_set hj h1 h2, ← cell_o hk ht, wd_set ho] at hP1
  exact kk H1 locs1 ls hP1 hS1 hl
theorem fv_up {g : Geo} {σ : Sto} {k ci j : Nat} {v : Int} : ∀ i : Nat, i ≠ j → fval g σ k ci i = fval g (upI σ k j v) k ci i := by
  intro i hi
  have e : (upI σ k j v).1 k i = σ.1 k i := by
    show (if k = k ∧ (i : Int) = (j : Int) then v else σ.1 k i) = _
    rw [if_neg (fun z => hi (by omega))]
  unfold fval
  rw [e]
  rfl
theorem upI_same {σ : Sto} {k : Nat} {j v : Int} : (upI σ k j v).1 k j = v := by
  show (if k = k ∧ j = j then v else σ.1 k j) = v
  rw [if_pos ⟨rfl, rfl⟩]
theorem at_puti (C : Cx p R s m args c cl sl cc own nL g) {k t n ci j ix : Nat} {v : Int} (F : FU own ix ci j .int) (hk : knd k = (t, n)) (ht : t = 10 + ci) (hj : j < n) (hf : fld ci j = (0, 0)) {jz : Int} (hz : (j : Int) = jz) (hd : decode cc pc = .ok (.putfield ix, 3)) (kk : At p l e R s m args below meth c cl sl g nL Q (pc + 3) lv st (upI σ k jz v)) : At p l e R s m args below meth c cl sl g nL Q pc lv (vi v :: vr g k :: st) σ := by subst hz; exact at_put C F hk ht hj upI_other fv_up (by unfold fval; rw [hf, upI_same]; rfl) rfl rfl hd kk
theorem at_putz (C : Cx p R s m args c cl sl cc own nL g) {k t n ci j ix : Nat} {v : Int} (F : FU own ix ci j .boolean) (hk : knd k = (t, n)) (ht : t = 10 + ci) (hj : j < n) (hf : fld ci j = (0, 0)) (hv : isB v) {jz : Int} (hz : (j : Int) = jz) (hd : decode cc pc = .ok (.putfield ix, 3)) (kk : At p l e R s m args below meth c cl sl g nL Q (pc + 3) lv st (upI σ k jz v)) : At p l e R s m args below meth c cl sl g nL Q pc lv (vi v :: vr g k :: st) σ := by subst hz; exact at_put C F hk ht hj upI_other fv_up (by unfold fval; rw [hf, upI_same]; rfl) (by rcases hv with rfl | rfl <;> rfl) (by rcases hv with rfl | rfl <;> rfl) hd kk
theorem at_putd (C : Cx p R s m args c cl sl cc own nL g) {k t n ci j ix k2 : Nat} {cn : String} (F : FU own ix ci j (.object cn)) (hk : knd k = (t, n)) (ht : t = 10 + ci) (hj : j < n) (hf : fld ci j = (2, 0)) {jz : Int} (hz : (j : Int) = jz) (hd : decode cc pc = .ok (.putfield ix, 3)) (kk : At p l e R s m args below meth c cl sl g nL Q (pc + 3) lv st (upI σ k jz (k2 : Int))) : At p l e R s m args below meth c cl sl g nL Q pc lv (vr g k2 :: vr g k :: st) σ := by subst hz; exact at_put C F hk ht hj upI_other fv_up (by unfold fval; rw [hf, upI_same]; rfl) rfl rfl hd kk
theorem at_putl (C : Cx p R s m args c cl sl cc own nL g) {k t n ci j ix : Nat} {v : Int} (F : FU own ix ci j .long) (hk : knd k = (t, n)) (ht : t = 10 + ci) (hj : j < n) (hf : fld ci j = (3, 0)) {jz : Int} (hz : (j : Int) = jz) (hd : decode cc pc = .ok (.putfield ix, 3)) (kk : At p l e R s m args below meth c cl sl g nL Q (pc + 3) lv st (upF σ k jz v)) : At p l e R s m args below meth c cl sl g nL Q pc lv (vl v :: vr g k :: st) σ := by
  subst hz
  exact at_put C F hk ht hj upF_other (by
  intro i hi
  have e : (upF σ k j v).2 k i = σ.2 k i := by
    show (if k = k ∧ (i : Int) = (j : Int) then v else σ.2 k i) = _
    rw [if_neg (fun z => hi (by omega))]
  unfold fval
  rw [e]
  rfl) (by
  have e : (upF σ k j v).2 k j = v := by
    show (if k = k ∧ (j : Int) = (j : Int) then v else σ.2 k j) = v
    rw [if_pos ⟨rfl, rfl⟩]
  unfold fval
  rw [hf, e]; rfl) rfl rfl hd kk
/-! the ends of a method -/
abbrev QI (g : Geo) (sz : Nat) (r : Int) (σ' : Sto) (T : Int → Prop) : Array Value → State → Outcome → State → Prop := va_Qi (fun (x : Int32) (_ : Unit) => x = Int32.ofInt r ∧ T r ∧ OK σ') (fun _ t => va_P g.1 vwCl (wd g σ') t.heap) (AA g sz)
abbrev QL (g : Geo) (sz : Nat) (r : Int) (σ' : Sto) : Array Value → State → Outcome → State → Prop := va_Ql (fun (x : Int64) (_ : Unit) => x = Int64.ofInt r ∧ inL r ∧ OK σ') (fun _ t => va_P g.1 vwCl (wd g σ') t.heap) (AA g sz)
abbrev QV (g : Geo) (sz : Nat) (σ' : Sto) : Array Value → State → Outcome → State → Prop := va_Qv (fun (_ : Unit) => OK σ') (fun _ t => va_P g.1 vwCl (wd g σ') t.heap) (AA g sz)
theorem at_iret (C : Cx p R s m args c cl sl cc own nL g) (hr : meth.sig.returnType = some .int) (hlk : meth.locks = false) {r : Int} (hT : inR r) (hok : OK σ) (hd : decode cc pc = .ok (.ireturn, 1)) : At p l e R s m args below meth c cl sl g nL (MQ below (QI g s.heap.size r σ inR) args s cl sl (AA g s.heap.size)) pc lv [vi r] σ := fun H locs ls hP hS hl => W.iret C.1 C.2.1 hr (fun t ht hW => ⟨⟨Int32.ofInt r, (), rfl, ⟨rfl, hT, hok⟩, by show va_P g.1 vwCl (wd g σ) t.heap; rw [ht]; exact hP⟩, hS.F ht⟩) hS.2.2 hd hlk
theorem at_zret (C : Cx p R s m args c cl sl cc own nL g) (hr : meth.sig.returnType = some .boolean) (hlk : meth.locks = false) {r : Int} (hT : isB r) (hok : OK σ) (hd : decode cc pc = .ok (.ireturn, 1)) : At p l e R s m args below meth c cl sl g nL (MQ below (QI g s.heap.size r σ isB) args s cl sl (AA g s.heap.size)) pc lv [vi r] σ := fun H locs ls hP hS hl => W.zret C.1 C.2.1 hr (by rcases hT with rfl | rfl <;> rfl) (fun t ht hW => ⟨⟨Int32.ofInt r, (), rfl, ⟨rfl, hT, hok⟩, by show va_P g.1 vwCl (wd g σ) t.heap; rw [ht]; exact hP⟩, hS.F ht⟩) hS.2.2 hd hlk
theorem at_lret (C : Cx p R s m args c cl sl cc own nL g) (hr : meth.sig.returnType = some .long) (hlk : meth.locks = false) {r : Int} (hT : inL r) (hok : OK σ) (hd : decode cc pc = .ok (.lreturn, 1)) : At p l e R s m args below meth c cl sl g nL (MQ below (QL g s.heap.size r σ) args s cl sl (AA g s.heap.size)) pc lv [vl r] σ := fun H locs ls hP hS hl => W.lret C.1 C.2.1 hr (fun t ht hW => ⟨⟨Int64.ofInt r, (), rfl, ⟨rfl, hT, hok⟩, by show va_P g.1 vwCl (wd g σ) t.heap; rw [ht]; exact hP⟩, hS.F ht⟩) hS.2.2 hd hlk
theorem at_vret (C : Cx p R s m args c cl sl cc own nL g) (hr : meth.sig.returnType = none) (hlk : meth.locks = false) (hok : OK σ) (hd : decode cc pc = .ok (.return_, 1)) : At p l e R s m args below meth c cl sl g nL (MQ below (QV g s.heap.size σ) args s cl sl (AA g s.heap.size)) pc lv [] σ := fun H locs ls hP hS hl => W.vret C.1 C.2.1 hr (fun t ht hW => ⟨⟨(), rfl, hok, by show va_P g.1 vwCl (wd g σ) t.heap; rw [ht]; exact hP⟩, hS.F ht⟩) hS.2.2 hd hlk
/-! contracts -/
abbrev CW (y : MethodName) (bytes : ByteArray) (maxL : Nat) (ret : Option FieldType) : List Cond := Cond.code y bytes maxL ret :: lwg
abbrev MtP (g : Geo) (σ : Sto) (av : List Value) (sz : Nat) : Array Value → State → Prop := va_Pc av (fun U => U.heap.size = sz ∧ Wld g σ U)
def MtI (l : Launch) (g : Geo) (y : MethodName) (bytes : ByteArray) (maxL : Nat) (ret : Option FieldType) (rm : Room) (av : List Value) (σ : Sto) (r : Int) (σ' : Sto) (T : Int → Prop) : Prop := ∀ sz, Met l y (CW y bytes maxL ret) rm (MtP g σ av sz) (QI g sz r σ' T) 0 0 (AA g sz)
def MtL (l : Launch) (g : Geo) (y : MethodName) (bytes : ByteArray) (maxL : Nat) (ret : Option FieldType) (rm : Room) (av : List Value) (σ : Sto) (r : Int) (σ' : Sto) : Prop := ∀ sz, Met l y (CW y bytes maxL ret) rm (MtP g σ av sz) (QL g sz r σ') 0 0 (AA g sz)
def MtV (l : Launch) (g : Geo) (y : MethodName) (bytes : ByteArray) (maxL : Nat) (ret : Option FieldType) (rm : Room) (av : List Value) (σ : Sto) (σ' : Sto) : Prop := ∀ sz, Met l y (CW y bytes maxL ret) rm (MtP g σ av sz) (QV g sz σ') 0 0 (AA g sz)
theorem good_in {ws : List Cond} (h : ∀ w ∈ ws, w ∈ lwg) : GoodIn lwg ws := fun w hw => ⟨h w hw, good_of_word (List.mem_filter.mp (h w hw)).2⟩
theorem Met.ofAt {y : MethodName} {rm : Room} {av : List Value} {sz : Nat} {maxL : Nat} {ret : Option FieldType} {QQ : Nat → Array Value → State → Outcome → State → Prop} (hy : plainName y.cls = true) (hn : (lg_sl av).length ≤ maxL) (hown : y.cls = own)
    (body : ∀ (p : Program) (e : Env) (s : State) (m : MethodId) (args : Array Value) (below : List Frame) (meth : Method) (c : Code), Cx p rm s m args c 0 0 cc own maxL g → meth.sig.returnType = ret → meth.locks = false → At p l e rm s m args below meth c 0 0 g maxL (MQ below (QQ s.heap.size) args s 0 0 (AA g s.heap.size)) 0 (lv_args 0 av) [] σ) : Met l y (CW y cc maxL ret) rm (MtP g σ av sz) (QQ sz) 0 0 (AA g sz) := by
  refine Met.ofW (cc := cc) (maxL := maxL) (ret := ret) hy rfl ?_
  intro p e s m args below meth c s₁ B hml hv
  obtain ⟨rfl, hsz, hP, hK, hI, hL⟩ := hv
  subst hsz
  have hts := atoms_spec (ws := CW y cc maxL ret) B.pre
  have ho : s.vm.findClass y.cls = some m.cls := findClass_of_methodNamed B.named
  have hl := lv_entry av (n := maxL) hn
  rw [lg_entry_eq]
  exact body p e s m av.toArray below meth c ⟨B.exec, B.bytes, hml, by rw [← hown]; exact ho, fun w hw => hts w (List.mem_cons_of_mem _ hw), hK, hI, hL, Nat.zero_le _, Nat.zero_le _⟩ B.returns B.notSynchronized s.heap [] _ hP va_S.rf hl
def KV (Cn : String) (y : MethodName) (bytes : ByteArray) (maxL : Nat) (ret : Option FieldType) (n : Nat) : Prop := (y.cls = Cn ∧ y.cls ≠ "java/lang/invoke/MethodHandle" ∧ y.cls ≠ "java/lang/invoke/VarHandle" ∧ (parseMethodDescriptor y.desc).map (fun d => d.parameters.length) = some n) ∧ Cond.code y bytes maxL ret ∈ lwg ∧ Cond.instanceMethod y ∈ lwg ∧ Cond.selects Cn y y ∈ lwg ∧ Cond.initialized Cn ∈ lwg
def KS (Cn : String) (y : MethodName) (bytes : ByteArray) (maxL : Nat) (ret : Option FieldType) (n : Nat) : Prop := (y.cls = Cn ∧ y.cls ≠ "java/lang/invoke/MethodHandle" ∧ y.cls ≠ "java/lang/invoke/VarHandle" ∧ (parseMethodDescriptor y.desc).map (fun d => d.parameters.length) = some n) ∧ Cond.code y bytes maxL ret ∈ lwg ∧ Cond.static y ∈ lwg ∧ Cond.initialized Cn ∈ lwg
theorem goodV {Cn : String} {y : MethodName} {bytes : ByteArray} {maxL n ix : Nat} {ret : Option FieldType} (K : KV Cn y bytes maxL ret n) (hl : Cond.methodLink own ix y ∈ lwg) : GoodIn lwg (wsV own ix Cn y (CW y bytes maxL ret)) := by
  apply good_in
  intro w hw
  unfold wsV at hw
  rcases List.mem_append.mp hw with h | h
  · rcases List.mem_cons.mp h with rfl | h
    · exact hl
    rcases List.mem_cons.mp h with rfl | h
    · exact K.2.2.1
    rcases List.mem_cons.mp h with rfl | h
    · exact K.2.2.2.1
    rcases List.mem_cons.mp h with rfl | h
    · exact K.2.2.2.2
    · cases h
  · rcases List.mem_cons.mp h with rfl | h
    · exact K.2.1
    · exact h
theorem goodS {y : MethodName} {bytes : ByteArray} {maxL n ix : Nat} {ret : Option FieldType} (K : KS own y bytes maxL ret n) (hl : Cond.methodLink own ix y ∈ lwg) : GoodIn lwg (wsS own ix y (CW y bytes maxL ret)) := by
  apply good_in
  intro w hw
  unfold wsS at hw
  rcases List.mem_append.mp hw with h | h
  · rcases List.mem_cons.mp h with rfl | h
    · exact hl
    rcases List.mem_cons.mp h with rfl | h
    · exact K.2.2.1
    rcases List.mem_cons.mp h with rfl | h
    · exact K.2.2.2
    · cases h
  · rcases List.mem_cons.mp h with rfl | h
    · exact K.2.1
    · exact h
theorem AA_sub {H : Heap} {locs : List Loc} (hS : va_S (AA g s.heap.size) s.heap H locs) : ∀ q, AA g H.size q → AA g s.heap.size q := by
  intro q h
  rcases h with h | h
  · exact Or.inl h
  · exact Or.inr (Nat.le_trans hS.1 h)
theorem blind (g : Geo) (σ : Sto) (av : List Value) (sz : Nat) : FrameBlind (MtP g σ av sz) := by
  intro a U g' mk q
  obtain ⟨q0, q1, qP, qK, qI, qL1, qL2⟩ := q
  exact ⟨q0, q1, qP, va_K.moved (u := U) (U := U.calling g' mk a) (Vm.Alike.refl U.vm) qK, qI, va_Z.moved (u := U) (U := U.calling g' mk a) (Vm.Alike.refl U.vm) qL1, va_T.moved (u := U) (U := U.calling g' mk a) (Vm.Alike.refl U.vm) qL2⟩
theorem preU (C : Cx p R s m args c cl sl cc own nL g) {H : Heap} {locs : List Loc} (hP : va_P g.1 vwCl (wd g σ) H) (hS : va_S (AA g s.heap.size) s.heap H locs) (av : List Value) : ∀ U : State, U.heap = H → s.WarmedH U.vm → MtP g σ av H.size av.toArray U := by
  intro U hU hW
  subst hU
  have hL := C.2.2.2.2.2.2.2.1
  exact ⟨rfl, rfl, hP, va_K.moved hW.alike C.2.2.2.2.2.1, C.2.2.2.2.2.2.1, ((hL.1.kept hS.2.1).moved hW.alike).narrow (AA_sub hS), ((hL.2.kept hS.2.1).moved hW.alike).narrow (AA_sub hS)⟩
theorem rcv (C : Cx p R s m args c cl sl cc own nL g) {H : Heap} {b t n ci : Nat} {Cn : String} {TT : u_T} {NN : Nat} (hP : va_P g.1 vwCl (wd g σ) H) (hk : knd b = (t, n)) (ht : t = 10 + ci) (hc : vwCl[ci]? = some (Cn, TT, NN)) : ∃ cell : Cell, H[g.2.2 b]? = some cell ∧ cell.vm.isStatics = false ∧ s.vm.findClass Cn = some cell.cls := by
  have hlt : ci < 13 := (List.getElem?_eq_some_iff.mp hc).1
  have e0 := wd_at (g := g) (σ := σ) (lt_np C (knd_np hk (by omega) (by omega)))
  rw [cell_o hk ht] at e0
  exact va_recv C.2.2.2.2.2.1 hP hc e0
theorem at_callV (C : Cx p R s m args c cl sl cc own nL g) {y : MethodName} {bytes : ByteArray} {maxL : Nat} {ret : Option FieldType} {rm : Room} {b t nf ci n ix : Nat} {As : List Value} {Cn : String} {TT : u_T} {NN : Nat} {r : Int} {σ' : Sto} {T : Int → Prop} {st0 : List Value} (M : MtI l g y bytes maxL ret rm (vr g b :: As) σ r σ' T) (K : KV Cn y bytes maxL ret n) (hlk : Cond.methodLink own ix y ∈ lwg) (hk : knd b = (t, nf)) (ht : t = 10 + ci) (hc : vwCl[ci]? = some (Cn, TT, NN)) (hn : As.length = n) (hst : st0 = As.reverse ++ vr g b :: st) (hW : (st.map fun v => v.category).sum ≤ 8) (hR : rm.cells = 0 ∧ rm.slots = 0 ∧ rm.frames + 1 ≤ R.frames ∧ 8 + (maxL + 11) + rm.locals ≤ R.locals) (hd : decode cc pc = .ok (.invokevirtual ix, 3)) (kk : T r → OK σ' → At p l e R s m args below meth c cl sl g nL Q (pc + 3) lv (vi r :: st) σ') : At p l e R s m args below meth c cl sl g nL Q pc lv st0 σ := by
  intro H locs ls hP hS hl
  refine va_calli (va_runV (As := As) (rest := st) ⟨C.1, C.2.1, C.2.2.1, C.2.2.2.1, C.2.2.2.2.1⟩ (M H.size) (cwV n C.2.2.2.2.1 (goodV K hlk) rfl hR.1 hR.2.1 K.1 hR.2.2) ⟨blind g σ _ _, rcv C hP hk ht hc, preU C hP hS _⟩ rfl hn hl.1 hst (lv_room hW) hd C.2.2.2.2.2.2.2.2) hS (fun q _ h => AA_sub hS q h) (AA_sub hS) (fun r0 u t H1 locs1 ht hvm hw hB hz hk1 hS1 => ?_)
  obtain ⟨rfl, hT, hok⟩ := hw
  rw [ht] at hB
  exact kk hT hok H1 locs1 ls hB hS1 hl
theorem at_callVl (C : Cx p R s m args c cl sl cc own nL g) {y : MethodName} {bytes : ByteArray} {maxL : Nat} {ret : Option FieldType} {rm : Room} {b t nf ci n ix : Nat} {As : List Value} {Cn : String} {TT : u_T} {NN : Nat} {r : Int} {σ' : Sto} {st0 : List Value} (M : MtL l g y bytes maxL ret rm (vr g b :: As) σ r σ') (K : KV Cn y bytes maxL ret n) (hlk : Cond.methodLink own ix y ∈ lwg) (hk : knd b = (t, nf)) (ht : t = 10 + ci) (hc : vwCl[ci]? = some (Cn, TT, NN)) (hn : As.length = n) (hst : st0 = As.reverse ++ vr g b :: st) (hW : (st.map fun v => v.category).sum ≤ 8) (hR : rm.cells = 0 ∧ rm.slots = 0 ∧ rm.frames + 1 ≤ R.frames ∧ 8 + (maxL + 11) + rm.locals ≤ R.locals) (hd : decode cc pc = .ok (.invokevirtual ix, 3)) (kk : inL r → OK σ' → At p l e R s m args below meth c cl sl g nL Q (pc + 3) lv (vl r :: st) σ') : At p l e R s m args below meth c cl sl g nL Q pc lv st0 σ := by
  intro H locs ls hP hS hl
  refine va_calll (va_runV (As := As) (rest := st) ⟨C.1, C.2.1, C.2.2.1, C.2.2.2.1, C.2.2.2.2.1⟩ (M H.size) (cwV n C.2.2.2.2.1 (goodV K hlk) rfl hR.1 hR.2.1 K.1 hR.2.2) ⟨blind g σ _ _, rcv C hP hk ht hc, preU C hP hS _⟩ rfl hn hl.1 hst (lv_room hW) hd C.2.2.2.2.2.2.2.2) hS (fun q _ h => AA_sub hS q h) (AA_sub hS) (fun r0 u t H1 locs1 ht hvm hw hB hz hk1 hS1 => ?_)
  obtain ⟨rfl, hT, hok⟩ := hw
  rw [ht] at hB
  exact kk hT hok H1 locs1 ls hB hS1 hl
theorem at_callVv (C : Cx p R s m args c cl sl cc own nL g) {y : MethodName} {bytes : ByteArray} {maxL : Nat} {ret : Option FieldType} {rm : Room} {b t nf ci n ix : Nat} {As : List Value} {Cn : String} {TT : u_T} {NN : Nat} {σ' : Sto} {st0 : List Value} (M : MtV l g y bytes maxL ret rm (vr g b :: As) σ σ') (K : KV Cn y bytes maxL ret n) (hlk : Cond.methodLink own ix y ∈ lwg) (hk : knd b = (t, nf)) (ht : t = 10 + ci) (hc : vwCl[ci]? = some (Cn, TT, NN)) (hn : As.length = n) (hst : st0 = As.reverse ++ vr g b :: st) (hW : (st.map fun v => v.category).sum ≤ 8) (hR : rm.cells = 0 ∧ rm.slots = 0 ∧ rm.frames + 1 ≤ R.frames ∧ 8 + (maxL + 11) + rm.locals ≤ R.locals) (hd : decode cc pc = .ok (.invokevirtual ix, 3)) (kk : OK σ' → At p l e R s m args below meth c cl sl g nL Q (pc + 3) lv st σ') : At p l e R s m args below meth c cl sl g nL Q pc lv st0 σ := by
  intro H locs ls hP hS hl
  refine va_callv (va_runV (As := As) (rest := st) ⟨C.1, C.2.1, C.2.2.1, C.2.2.2.1, C.2.2.2.2.1⟩ (M H.size) (cwV n C.2.2.2.2.1 (goodV K hlk) rfl hR.1 hR.2.1 K.1 hR.2.2) ⟨blind g σ _ _, rcv C hP hk ht hc, preU C hP hS _⟩ rfl hn hl.1 hst (lv_room hW) hd C.2.2.2.2.2.2.2.2) hS (fun q _ h => AA_sub hS q h) (AA_sub hS) (fun u t H1 locs1 ht hvm hw hB hz hk1 hS1 => ?_)
  rw [ht] at hB
  exact kk hw H1 locs1 ls hB hS1 hl
theorem at_callS (C : Cx p R s m args c cl sl cc own nL g) {y : MethodName} {bytes : ByteArray} {maxL : Nat} {ret : Option FieldType} {rm : Room} {n ix : Nat} {As : List Value} {r : Int} {σ' : Sto} {T : Int → Prop} {st0 : List Value} (M : MtI l g y bytes maxL ret rm As σ r σ' T) (K : KS own y bytes maxL ret n) (hlk : Cond.methodLink own ix y ∈ lwg) (hn : As.length = n) (hst : st0 = As.reverse ++ st) (hW : (st.map fun v => v.category).sum ≤ 8) (hR : rm.cells = 0 ∧ rm.slots = 0 ∧ rm.frames + 1 ≤ R.frames ∧ 8 + (maxL + 11) + rm.locals ≤ R.locals) (hd : decode cc pc = .ok (.invokestatic ix, 3)) (kk : T r → OK σ' → At p l e R s m args below meth c cl sl g nL Q (pc + 3) lv (vi r :: st) σ') : At p l e R s m args below meth c cl sl g nL Q pc lv st0 σ := by
  intro H locs ls hP hS hl
  refine va_calli (va_runS (As := As) (rest := st) ⟨C.1, C.2.1, C.2.2.1, C.2.2.2.1, C.2.2.2.2.1⟩ (M H.size) (cwS n C.2.2.2.2.1 (goodS K hlk) rfl hR.1 hR.2.1 K.1 hR.2.2) ⟨blind g σ _ _, preU C hP hS _⟩ rfl hn hl.1 hst (lv_room hW) hd C.2.2.2.2.2.2.2.2) hS (fun q _ h => AA_sub hS q h) (AA_sub hS) (fun r0 u t H1 locs1 ht hvm hw hB hz hk1 hS1 => ?_)
  obtain ⟨rfl, hT, hok⟩ := hw
  rw [ht] at hB
  exact kk hT hok H1 locs1 ls hB hS1 hl
theorem at_callSv (C : Cx p R s m args c cl sl cc own nL g) {y : MethodName} {bytes : ByteArray} {maxL : Nat} {ret : Option FieldType} {rm : Room} {n ix : Nat} {As : List Value} {σ' : Sto} {st0 : List Value} (M : MtV l g y bytes maxL ret rm As σ σ') (K : KS own y bytes maxL ret n) (hlk : Cond.methodLink own ix y ∈ lwg) (hn : As.length = n) (hst : st0 = As.reverse ++ st) (hW : (st.map fun v => v.category).sum ≤ 8) (hR : rm.cells = 0 ∧ rm.slots = 0 ∧ rm.frames + 1 ≤ R.frames ∧ 8 + (maxL + 11) + rm.locals ≤ R.locals) (hd : decode cc pc = .ok (.invokestatic ix, 3)) (kk : OK σ' → At p l e R s m args below meth c cl sl g nL Q (pc + 3) lv st σ') : At p l e R s m args below meth c cl sl g nL Q pc lv st0 σ := by
  intro H locs ls hP hS hl
  refine va_callv (va_runS (As := As) (rest := st) ⟨C.1, C.2.1, C.2.2.1, C.2.2.2.1, C.2.2.2.2.1⟩ (M H.size) (cwS n C.2.2.2.2.1 (goodS K hlk) rfl hR.1 hR.2.1 K.1 hR.2.2) ⟨blind g σ _ _, preU C hP hS _⟩ rfl hn hl.1 hst (lv_room hW) hd C.2.2.2.2.2.2.2.2) hS (fun q _ h => AA_sub hS q h) (AA_sub hS) (fun u t H1 locs1 ht hvm hw hB hz hk1 hS1 => ?_)
  rw [ht] at hB
  exact kk hw H1 locs1 ls hB hS1 hl
/-! the JDK's own -/
def jmax (a b : Int) : Int := if a < b then b else a
def jmin (a b : Int) : Int := if b < a then b else a
def jabs (a : Int) : Int := if 0 ≤ a then a else js 0 a
theorem jmax_R {a b : Int} (ha : inR a) (hb : inR b) : inR (jmax a b) := by
  unfold jmax
  by_cases h : a < b
  · rw [if_pos h]; exact hb
  · rw [if_neg h]; exact ha
theorem jmin_R {a b : Int} (ha : inR a) (hb : inR b) : inR (jmin a b) := by
  unfold jmin
  by_cases h : b < a
  · rw [if_pos h]; exact hb
  · rw [if_neg h]; exact ha
theorem jabs_R {a : Int} (ha : inR a) : inR (jabs a) := by
  unfold jabs
  by_cases h : 0 ≤ a
  · rw [if_pos h]; exact ha
  · rw [if_neg h]; exact js_R 0 a
def KM (x : MethodName) (b : ByteArray) (n : Nat) : Prop := Cond.static x ∈ lwg ∧ Cond.initialized "java/lang/Math" ∈ lwg ∧ Cond.code x b n (some .int) ∈ lwg
theorem at_mmax (C : Cx p R s m args c cl sl cc own nL g) {ix : Nat} {a b : Int} (K : KM Lib.Math.max.name Lib.Math.max.code 2) (hlk : Cond.methodLink own ix Lib.Math.max.name ∈ lwg) (ha : inR a) (hb : inR b) (hR : 1 ≤ R.frames ∧ (st.map fun v => v.category).sum + 13 ≤ R.locals) (hd : decode cc pc = .ok (.invokestatic ix, 3)) (kk : At p l e R s m args below meth c cl sl g nL Q (pc + 3) lv (vi (jmax a b) :: st) σ) : At p l e R s m args below meth c cl sl g nL Q pc lv (vi b :: vi a :: st) σ := by
  intro H locs ls hP hS hl
  have h := kk H locs ls hP hS hl
  have e1 : (if Int32.ofInt a < Int32.ofInt b then Int32.ofInt b else Int32.ofInt a) = Int32.ofInt (jmax a b) := by
    unfold jmax
    by_cases q : a < b
    · rw [if_pos q, if_pos ((ltI ha hb).mpr q)]
    · rw [if_neg q, if_neg (fun z => q ((ltI ha hb).mp z))]
  exact va_mmax C.1 C.2.1 (C.2.2.1.trans hl.1.symm) C.2.2.2.1 (C.2.2.2.2.1 _ hlk) (C.2.2.2.2.1 _ K.1) (C.2.2.2.2.1 _ K.2.1) (C.2.2.2.2.1 _ K.2.2) hR.1 hR.2 C.2.2.2.2.2.2.2.2.1 C.2.2.2.2.2.2.2.2.2 hd (by rw [e1]; exact h)
theorem at_mmin (C : Cx p R s m args c cl sl cc own nL g) {ix : Nat} {a b : Int} (K : KM Lib.Math.min.name Lib.Math.min.code 2) (hlk : Cond.methodLink own ix Lib.Math.min.name ∈ lwg) (ha : inR a) (hb : inR b) (hR : 1 ≤ R.frames ∧ (st.map fun v => v.category).sum + 13 ≤ R.locals) (hd : decode cc pc = .ok (.invokestatic ix, 3)) (kk : At p l e R s m args below meth c cl sl g nL Q (pc + 3) lv (vi (jmin a b) :: st) σ) : At p l e R s m args below meth c cl sl g nL Q pc lv (vi b :: vi a :: st) σ := by
  intro H locs ls hP hS hl
  have h := kk H locs ls hP hS hl
  have e1 : (if Int32.ofInt b < Int32.ofInt a then Int32.ofInt b else Int32.ofInt a) = Int32.ofInt (jmin a b) := by
    unfold jmin
    by_cases q : b < a
    · rw [if_pos q, if_pos ((ltI hb ha).mpr q)]
    · rw [if_neg q, if_neg (fun z => q ((ltI hb ha).mp z))]
  exact va_mmin C.1 C.2.1 (C.2.2.1.trans hl.1.symm) C.2.2.2.1 (C.2.2.2.2.1 _ hlk) (C.2.2.2.2.1 _ K.1) (C.2.2.2.2.1 _ K.2.1) (C.2.2.2.2.1 _ K.2.2) hR.1 hR.2 C.2.2.2.2.2.2.2.2.1 C.2.2.2.2.2.2.2.2.2 hd (by rw [e1]; exact h)
theorem at_mabs (C : Cx p R s m args c cl sl cc own nL g) {ix : Nat} {a : Int} (K : KM Lib.Math.abs.name Lib.Math.abs.code 1) (hlk : Cond.methodLink own ix Lib.Math.abs.name ∈ lwg) (ha : inR a) (hR : 1 ≤ R.frames ∧ (st.map fun v => v.category).sum + 13 ≤ R.locals) (hd : decode cc pc = .ok (.invokestatic ix, 3)) (kk : At p l e R s m args below meth c cl sl g nL Q (pc + 3) lv (vi (jabs a) :: st) σ) : At p l e R s m args below meth c cl sl g nL Q pc lv (vi a :: st) σ := by
  intro H locs ls hP hS hl
  have h := kk H locs ls hP hS hl
  have e1 : (if 0 ≤ Int32.ofInt a then Int32.ofInt a else 0 - Int32.ofInt a) = Int32.ofInt (jabs a) := by
    show (if Int32.ofInt 0 ≤ Int32.ofInt a then Int32.ofInt a else Int32.ofInt 0 - Int32.ofInt a) = _
    unfold jabs
    by_cases q : 0 ≤ a
    · rw [if_pos q, if_pos ((leI inR0 ha).mpr q)]
    · rw [if_neg q, if_neg (fun z => q ((leI inR0 ha).mp z)), js, Int32.ofInt_toInt]
  exact va_mabs C.1 C.2.1 (C.2.2.1.trans hl.1.symm) C.2.2.2.1 (C.2.2.2.2.1 _ hlk) (C.2.2.2.2.1 _ K.1) (C.2.2.2.2.1 _ K.2.1) (C.2.2.2.2.1 _ K.2.2) hR.1 hR.2 C.2.2.2.2.2.2.2.2.1 C.2.2.2.2.2.2.2.2.2 hd (by rw [e1]; exact h)
def KC : Prop := Cond.native arraycopyName ∈ lwg ∧ Cond.static arraycopyName ∈ lwg ∧ Cond.initialized "java/lang/System" ∈ lwg
theorem at_copy (C : Cx p R s m args c cl sl cc own nL g) {ix k0 k1 n0 n1 : Nat} {sp dp n : Int} (K : KC) (hlk : Cond.methodLink own ix arraycopyName ∈ lwg) (hk0 : knd k0 = (0, n0)) (hk1 : knd k1 = (0, n1)) (h1 : 0 ≤ sp ∧ 0 ≤ dp ∧ 0 ≤ n ∧ sp + n ≤ n0 ∧ dp + n ≤ n1) (hR : 1 ≤ R.frames ∧ (st.map fun v => v.category).sum + (nativeFrameWords "java/lang/System" "arraycopy" 5 + 11) ≤ R.locals) (hd : decode cc pc = .ok (.invokestatic ix, 3)) (kk : At p l e R s m args below meth c cl sl g nL Q (pc + 3) lv st (cpI σ k0 sp k1 dp n)) : At p l e R s m args below meth c cl sl g nL Q pc lv (vi n :: vi dp :: vr g k1 :: vi sp :: vr g k0 :: st) σ := by
  intro H locs ls hP hS hl
  have e0 := wd_at (g := g) (σ := σ) (lt_np C (knd_np hk0 (by decide) (by decide)))
  rw [cell_i hk0] at e0
  have e1 := wd_at (g := g) (σ := σ) (lt_np C (knd_np hk1 (by decide) (by decide)))
  rw [cell_i hk1] at e1
  have b0 := knd_n hk0
  have b1 := knd_n hk1
  have nn : ∀ x : Int, 0 ≤ x → x ≤ 4600 → ¬ Int32.ofInt x < 0 := fun x hx hy z => by
    rw [Int32.lt_iff_toInt_lt, t_ofI ⟨by omega, by omega⟩] at z
    have z : x < 0 := z
    omega
  have cl : ∀ x : Int, 0 ≤ x → x ≤ 4600 → (Int32.ofInt x).toNatClampNeg = x.toNat := fun x hx hy => Int32.toNatClampNeg_ofInt_of_le (by omega) (by omega)
  refine va_copyi C.1 C.2.1 (C.2.2.1.trans hl.1.symm) C.2.2.2.1 (C.2.2.2.2.1 _ hlk) (C.2.2.2.2.1 _ K.1) (C.2.2.2.2.1 _ K.2.1) (C.2.2.2.2.1 _ K.2.2) C.2.2.2.2.2.1 hP (wd_D C.2.2.2.2.2.2.1) hS k0 k1 0 0 e0 e1 rfl rfl rfl (nn _ h1.1 (by omega)) (nn _ h1.2.1 (by omega)) (nn _ h1.2.2.1 (by omega)) (by rw [cl _ h1.1 (by omega), cl _ h1.2.2.1 (by omega)]; omega) (by rw [cl _ h1.2.1 (by omega), cl _ h1.2.2.1 (by omega)]; omega) (fun _ _ => rfl) hR.1 hR.2 hd (fun H1 locs1 hP1 _ hS1 => ?_)
  have e2 : va_cpy (fun j : Nat => Int32.ofInt (σ.1 k0 j)) (fun j : Nat => Int32.ofInt (σ.1 k1 j)) (Int32.ofInt sp).toNatClampNeg (Int32.ofInt dp).toNatClampNeg (Int32.ofInt n).toNatClampNeg = fun j : Nat => Int32.ofInt ((cpI σ k0 sp k1 dp n).1 k1 j) := by
    rw [cl _ h1.1 (by omega), cl _ h1.2.1 (by omega), cl _ h1.2.2.1 (by omega)]
    funext j
    show (if dp.toNat ≤ j ∧ j < dp.toNat + n.toNat then Int32.ofInt (σ.1 k0 ((sp.toNat + (j - dp.toNat) : Nat) : Int)) else Int32.ofInt (σ.1 k1 j)) = Int32.ofInt (if k1 = k1 ∧ dp ≤ (j : Int) ∧ (j : Int) < dp + n then σ.1 k0 (sp + ((j : Int) - dp)) else σ.1 k1 j)
    by_cases q : dp.toNat ≤ j ∧ j < dp.toNat + n.toNat
    · rw [if_pos q, if_pos ⟨rfl, by omega, by omega⟩, show ((sp.toNat + (j - dp.toNat) : Nat) : Int) = sp + ((j : Int) - dp) by omega]
    · rw [if_neg q, if_neg (fun z => q ⟨by omega, by omega⟩)]
  rw [e2, ← cell_i hk1, wd_set (σ' := cpI σ k0 sp k1 dp n) (by
    intro a ha
    refine ⟨fun i => ?_, fun i => rfl⟩
    show _ = if a = k1 ∧ dp ≤ i ∧ i < dp + n then _ else σ.1 a i
    rw [if_neg (fun z => ha z.1)])] at hP1
  exact kk H1 locs1 ls hP1 hS1 hl
/-! guards, loops -/
def inb {α : Type} (i n : Int) (x : Option α) : Option α := if 0 ≤ i ∧ i < n then x else none
theorem inb_some {α : Type} {i n : Int} {x : Option α} {r : α} (h : inb i n x = some r) : (0 ≤ i ∧ i < n) ∧ x = some r := by
  unfold inb at h
  by_cases q : 0 ≤ i ∧ i < n
  · rw [if_pos q] at h; exact ⟨q, h⟩
  · rw [if_neg q] at h; cases h
def grd {α : Type} (P : Prop) (d : Decidable P) (x : Option α) : Option α := if P then x else none
theorem grd_some {α : Type} {P : Prop} {d : Decidable P} {x : Option α} {r : α} (h : grd P d x = some r) : P ∧ x = some r := by
  unfold grd at h
  by_cases q : P
  · rw [if_pos q] at h; exact ⟨q, h⟩
  · rw [if_neg q] at h; cases h
theorem bind_some' {α β : Type} {x : Option α} {f : α → Option β} {r : β} (h : x.bind f = some r) : ∃ a, x = some a ∧ f a = some r := by
  cases x with
  | none => cases h
  | some a => exact ⟨a, rfl, h⟩
def asB {α : Type} (x : Int) (f : Nat → Option α) : Option α := if knd x.toNat = (10, 14) then f x.toNat else none
theorem asB_some {α : Type} {x : Int} {f : Nat → Option α} {r : α} (h : asB x f = some r) : ∃ b : Nat, x.toNat = b ∧ knd b = (10, 14) ∧ f b = some r := by
  unfold asB at h
  by_cases q : knd x.toNat = (10, 14)
  · rw [if_pos q] at h; exact ⟨_, rfl, q, h⟩
  · rw [if_neg q] at h; cases h
def loopK {S Rt : Type} (b : S → (S → Option Rt) → Option Rt) : Nat → S → Option Rt
  | 0, _ => none
  | n + 1, s => b s (loopK b n)
theorem loopK_ind {S Rt : Type} {b : S → (S → Option Rt) → Option Rt} {res : Rt} {P : S → Prop} (step : ∀ (nx : S → Option Rt) (s : S), (∀ s', nx s' = some res → P s') → b s nx = some res → P s) : ∀ (n : Nat) (s : S), loopK b n s = some res → P s := by
  intro n
  induction n with
  | zero => intro s h; cases h
  | succ n ih => intro s h; exact step (loopK b n) s ih h

end RUL
