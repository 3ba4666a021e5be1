/-! THE STORE AND THE WORLD: 114 cells (the class, the reference, the law's own row), their shape fixed; what they hold is a store σ of integers -/
abbrev Sto : Type := (Nat → Int → Int) × (Nat → Int → Int)
abbrev Geo : Type := va_G × (ClassId × ClassId × ClassId × ClassId) × (Nat → Nat)
def inR (x : Int) : Prop := -2147483648 ≤ x ∧ x ≤ 2147483647
def isB (x : Int) : Prop := x = 0 ∨ x = 1
def OK (σ : Sto) : Prop := ∀ (k : Nat) (j : Int), inR (σ.1 k j)
def fb (x : Int) : UInt32 := UInt32.ofNat x.toNat
abbrev vi (x : Int) : Value := .int (Int32.ofInt x)
abbrev vl (x : Int) : Value := .long (Int64.ofInt x)
abbrev vr (g : Geo) (k : Nat) : Value := .ref (g.2.2 k)
def kndL : List (Nat × Nat) := [(21, 18), (18, 11), (1, 700), (10, 14), (0, 8), (0, 8), (0, 8), (0, 12), (0, 12), (0, 12), (0, 12), (17, 5), (0, 24), (0, 24), (0, 24), (0, 24), (10, 14), (0, 8), (0, 8), (0, 8), (0, 12), (0, 12), (0, 12), (0, 12), (17, 5), (0, 24), (0, 24), (0, 24), (0, 24), (15, 4), (0, 30), (0, 30), (0, 30), (12, 2), (0, 100), (13, 4), (15, 4), (0, 30), (0, 30), (0, 30), (17, 5), (0, 24), (0, 24), (0, 24), (0, 24), (0, 12), (20, 6), (0, 64), (0, 64), (2, 64), (0, 8), (0, 8), (14, 3), (0, 25), (0, 200), (16, 2), (0, 144), (0, 144), (11, 14), (0, 12), (0, 12), (0, 144), (0, 144), (0, 144), (0, 12), (0, 12), (0, 12), (0, 12), (19, 5), (0, 8), (0, 8), (0, 8), (0, 8), (15, 4), (0, 30), (0, 30), (0, 30), (14, 3), (0, 25), (0, 200), (16, 2), (0, 144), (0, 144), (11, 14), (0, 12), (0, 12), (0, 144), (0, 144), (0, 144), (0, 12), (0, 12), (0, 12), (0, 12), (0, 12), (22, 48), (0, 700), (0, 41), (0, 48), (0, 96), (0, 128), (0, 8), (0, 4600), (2, 64), (0, 26), (0, 208), (0, 12), (0, 144), (0, 144), (0, 12), (0, 12), (0, 156), (0, 64), (0, 8), (3, 1)]
def knd (k : Nat) : Nat × Nat := kndL.getD k (99, 0)
abbrev NP : Nat := 114
def fldL : List (List (Nat × Nat)) := [[(1, 1), (1, 2), (1, 3), (1, 4), (1, 5), (1, 6), (1, 7), (1, 8), (0, 0), (0, 0), (0, 0), (0, 0), (0, 0), (0, 0)],
  [(1, 1), (1, 2), (1, 3), (1, 4), (1, 5), (1, 6), (1, 7), (1, 8), (1, 9), (0, 0), (0, 0), (0, 0), (0, 0), (0, 0)],
  [(1, 1), (0, 0)],
  [(1, 1), (1, 5), (1, 10), (0, 0)],
  [(1, 1), (1, 2), (0, 0)],
  [(1, 1), (1, 2), (1, 3), (0, 0)],
  [(1, 1), (1, 2)],
  [(1, 1), (1, 2), (1, 3), (1, 4), (0, 0)],
  [(1, 1), (0, 0), (0, 0), (0, 0), (0, 0), (0, 0), (0, 0), (0, 0), (0, 0), (0, 0), (0, 0)],
  [(1, 1), (1, 2), (1, 3), (1, 4), (0, 0)],
  [(1, 1), (1, 2), (1, 3), (1, 4), (1, 5), (0, 0)],
  [(1, 1), (2, 0), (2, 0), (1, 29), (1, 33), (1, 35), (1, 46), (1, 52), (1, 55), (1, 58), (1, 68), (1, 73), (1, 77), (1, 80), (1, 83), (1, 93), (0, 0), (0, 0)],
  [(1, 1), (0, 0), (0, 0), (1, 2), (0, 0), (0, 0), (0, 0), (0, 0), (0, 0), (0, 0), (0, 0), (0, 0), (0, 0), (1, 3), (0, 0), (0, 0), (1, 4), (0, 0), (0, 0), (1, 5), (1, 6), (0, 0), (0, 0), (1, 7), (0, 0), (0, 0), (0, 0), (1, 8), (1, 9), (1, 10), (0, 0), (0, 0), (0, 0), (0, 0), (1, 11), (1, 12), (1, 13), (0, 0), (0, 0), (1, 14), (1, 15), (1, 16), (1, 17), (1, 18), (0, 0), (0, 0), (0, 0), (3, 0)]]
def fld (c j : Nat) : Nat × Nat := (fldL.getD c []).getD j (0, 0)
/-- the tables' words that last -/
def lwg : List Cond := lw_tbl.filter goodWord
theorem lwg_in {w : Cond} {i : Nat} (h : lw_tbl[i]? = some w) (hg : goodWord w = true) : w ∈ lwg := List.mem_filter.mpr ⟨List.mem_of_getElem? h, hg⟩
def fval (g : Geo) (σ : Sto) (k c j : Nat) : Value :=
  if (fld c j).1 = 0 then vi (σ.1 k j) else if (fld c j).1 = 1 then vr g (k + (fld c j).2) else if (fld c j).1 = 2 then vr g (σ.1 k j).toNat else vl (σ.2 k j)
def cellE (g : Geo) (σ : Sto) (k : Nat) : va_E :=
  if (knd k).1 = 0 then .inl (g.2.1.1, (knd k).2, .inl (fun j : Nat => Int32.ofInt (σ.1 k j)))
  else if (knd k).1 = 1 then .inl (g.2.1.2.1, (knd k).2, .inl (fun j : Nat => Int32.ofInt (σ.1 k j)))
  else if (knd k).1 = 2 then .inl (g.2.1.2.2.1, (knd k).2, .inr (.inr (.inl (fun j : Nat => fb (σ.2 k j)))))
  else if (knd k).1 = 3 then .inl (g.2.1.2.2.2, (knd k).2, .inr (.inl (fun j : Nat => Int64.ofInt (σ.2 k j))))
  else .inr ((knd k).1 - 10, (List.range (knd k).2).map (fval g σ k ((knd k).1 - 10)))
/-- how many places are there: 113, or 114 once the law's own row is -/
abbrev npo (g : Geo) : Nat := g.2.2 300
def wd (g : Geo) (σ : Sto) : va_W := (List.range (npo g)).map (fun k => (g.2.2 k, cellE g σ k))
def upI (σ : Sto) (k : Nat) (j v : Int) : Sto := (fun a b => if a = k ∧ b = j then v else σ.1 a b, σ.2)
def upF (σ : Sto) (k : Nat) (j v : Int) : Sto := (σ.1, fun a b => if a = k ∧ b = j then v else σ.2 a b)
def cpI (σ : Sto) (ks : Nat) (sp : Int) (kd : Nat) (dp n : Int) : Sto := (fun a b => if a = kd ∧ dp ≤ b ∧ b < dp + n then σ.1 ks (sp + (b - dp)) else σ.1 a b, σ.2)
theorem inR_t (x : Int32) : inR x.toInt := ⟨by have := Int32.le_toInt x; omega, by have := Int32.toInt_lt x; omega⟩
theorem t_ofI {x : Int} (h : inR x) : (Int32.ofInt x).toInt = x := Int32.toInt_ofInt_of_le (by have := h.1; omega) (by have := h.2; omega)
theorem vi_t (x : Int32) : vi x.toInt = .int x := by show Value.int _ = _; rw [Int32.ofInt_toInt]
theorem vl_t (x : Int64) : vl x.toInt = .long x := by show Value.long _ = _; rw [Int64.ofInt_toInt]
theorem isB.r {x : Int} (h : isB x) : inR x := by rcases h with rfl | rfl <;> (constructor <;> decide)
theorem fb_t (x : UInt32) : fb (x.toNat : Int) = x := by
  show UInt32.ofNat (x.toNat : Int).toNat = x
  rw [Int.toNat_natCast, UInt32.ofNat_toNat]
theorem OK_up {σ : Sto} {k : Nat} {j v : Int} (h : OK σ) (hv : inR v) : OK (upI σ k j v) := by
  intro a b
  show inR (if a = k ∧ b = j then v else σ.1 a b)
  by_cases q : a = k ∧ b = j
  · rw [if_pos q]; exact hv
  · rw [if_neg q]; exact h a b
theorem OK_uf {σ : Sto} {k : Nat} {j v : Int} (h : OK σ) : OK (upF σ k j v) := h
theorem OK_cp {σ : Sto} {ks kd : Nat} {sp dp n : Int} (h : OK σ) : OK (cpI σ ks sp kd dp n) := by
  intro a b
  show inR (if a = kd ∧ dp ≤ b ∧ b < dp + n then σ.1 ks (sp + (b - dp)) else σ.1 a b)
  by_cases q : a = kd ∧ dp ≤ b ∧ b < dp + n
  · rw [if_pos q]; exact h _ _
  · rw [if_neg q]; exact h a b
theorem knd_out {k : Nat} (q : NP ≤ k) : knd k = (99, 0) := by
  unfold knd
  rw [List.getD_eq_getElem?_getD, List.getElem?_eq_none (by exact q)]; rfl
theorem knd_lt {k t n : Nat} (h : knd k = (t, n)) (ht : t ≠ 99) : k < NP := by
  rcases Nat.lt_or_ge k NP with q | q
  · exact q
  · rw [knd_out q] at h
    exact absurd (congrArg Prod.fst h).symm ht
theorem knd_np {k t n : Nat} (h : knd k = (t, n)) (ht : t ≠ 99) (h3 : t ≠ 3) : k < 113 := by
  have a : k < 114 := knd_lt h ht
  rcases Nat.lt_or_ge k 113 with q | q
  · exact q
  · have e : k = 113 := by omega
    subst e
    exact absurd (congrArg Prod.fst h).symm h3
theorem knd_lt' {k t n : Nat} (h : knd k = (t, n)) (ht : 0 < n) : k < NP := by
  rcases Nat.lt_or_ge k NP with q | q
  · exact q
  · rw [knd_out q] at h
    have h2 : 0 = n := congrArg Prod.snd h
    omega
theorem wd_at {g : Geo} {σ : Sto} {k : Nat} (h : k < npo g) : (wd g σ)[k]? = some (g.2.2 k, cellE g σ k) := by
  unfold wd
  rw [List.getElem?_map, List.getElem?_range h]; rfl
theorem cellE_congr {g : Geo} {σ σ' : Sto} {k : Nat} (h1 : ∀ j, σ.1 k j = σ'.1 k j) (h2 : ∀ j, σ.2 k j = σ'.2 k j) : cellE g σ k = cellE g σ' k := by
  have e1 : σ.1 k = σ'.1 k := funext h1
  have e2 : σ.2 k = σ'.2 k := funext h2
  have e3 : ∀ c, fval g σ k c = fval g σ' k c := by
    intro c; funext j
    unfold fval
    rw [e1, e2]
  unfold cellE
  rw [e1, e2, e3]
theorem wd_set {g : Geo} {σ σ' : Sto} {k : Nat} (h : ∀ a, a ≠ k → (∀ j, σ.1 a j = σ'.1 a j) ∧ ∀ j, σ.2 a j = σ'.2 a j) : (wd g σ).set k (g.2.2 k, cellE g σ' k) = wd g σ' := by
  apply List.ext_getElem?
  intro i
  rcases Nat.lt_or_ge i (npo g) with hi | hi
  · rw [wd_at hi, List.getElem?_set]
    by_cases e : k = i
    · subst e
      rw [if_pos rfl, if_pos (by unfold wd; rw [List.length_map, List.length_range]; exact hi)]
    · rw [if_neg e, wd_at hi, cellE_congr (σ := σ) (σ' := σ') (h i (fun q => e q.symm)).1 (h i (fun q => e q.symm)).2]
  · rw [List.getElem?_eq_none (by rw [List.length_set]; unfold wd; rw [List.length_map, List.length_range]; exact hi), List.getElem?_eq_none (by unfold wd; rw [List.length_map, List.length_range]; exact hi)]
def AA (g : Geo) (sz : Nat) : Nat → Prop := fun q => (∃ k, k < npo g ∧ q = g.2.2 k) ∨ sz ≤ q
def Inj (g : Geo) : Prop := (113 ≤ npo g ∧ npo g ≤ 114) ∧ ∀ i j, i < npo g → j < npo g → g.2.2 i = g.2.2 j → i = j
abbrev tysG (g : Geo) : List (ClassId × FieldType) := [(g.2.1.1, .int), (g.2.1.2.1, .byte), (g.2.1.2.2.1, .float), (g.2.1.2.2.2, .long)]
theorem wd_D {g : Geo} {σ : Sto} {sz : Nat} (h : Inj g) : va_D (AA g sz) (wd g σ) := by
  have key : ∀ (k : Nat) (q : Nat × va_E), (wd g σ)[k]? = some q → k < npo g ∧ q.1 = g.2.2 k := by
    intro k q hq
    rcases Nat.lt_or_ge k (npo g) with hk | hk
    · rw [wd_at hk] at hq
      cases hq
      exact ⟨hk, rfl⟩
    · rw [List.getElem?_eq_none (by unfold wd; rw [List.length_map, List.length_range]; exact hk)] at hq
      cases hq
  refine ⟨fun i j p q hi hj e => ?_, fun k q hq => Or.inl ⟨k, key k q hq⟩⟩
  obtain ⟨a1, a2⟩ := key i p hi
  obtain ⟨b1, b2⟩ := key j q hj
  exact h.2 i j a1 b1 (by rw [← a2, ← b2]; exact e)
def lwd (i : Int) : Int := (([441878706, 527911936, 542713316, 236590080, 556043424, 102320928, 642945024] : List Int).getD i.toNat 0)
def LWF (g : Geo) (A : Nat → Prop) (U : State) (H : Heap) : Prop := va_Z RX8 "LINE_WORDS" "[I" (.ref (g.2.2 200)) A U H ∧ va_T .int (g.2.2 200) 7 (fun j : Nat => vi (lwd j)) A U H
def Wld (g : Geo) (σ : Sto) (U : State) : Prop := va_P g.1 vwCl (wd g σ) U.heap ∧ va_K g.1 vwCl (tysG g) U ∧ Inj g ∧ LWF g (AA g U.heap.size) U U.heap
def Cx (p : Program) (R : Room) (s : State) (m : MethodId) (args : Array Value) (c : Code) (cl sl : Nat) (cc : ByteArray) (own : String) (nL : Nat) (g : Geo) : Prop :=
  p.tables.exec = Jvm.exec ∧ c.code = cc ∧ c.maxLocals = nL ∧ s.vm.findClass own = some m.cls ∧ (∀ w ∈ lwg, w.before args s = true) ∧ va_K g.1 vwCl (tysG g) s ∧ Inj g ∧ (LWF g (AA g s.heap.size) s s.heap ∧ (cl ≤ R.cells ∧ sl ≤ R.slots))
def At (p : Program) (l : Launch) (e : Env) (R : Room) (s : State) (m : MethodId) (args : Array Value) (below : List Frame) (meth : Method) (c : Code) (cl sl : Nat) (g : Geo) (nL : Nat) (Q : State → Prop) (pc : Nat) (lv : List (Nat × Value)) (st : List Value) (σ : Sto) : Prop :=
  ∀ (H : Heap) (locs : List Loc) (ls : Array Slot), va_P g.1 vwCl (wd g σ) H → va_S (AA g s.heap.size) s.heap H locs → lv_has ls nL lv → W p l e R s m args below meth c H locs cl sl Q (F0 m pc ls st)

