/-! THE MODEL'S CONSTRUCTOR -/
theorem va_P_mem {D : va_G} {cls : List vw_C} {ws : va_W} {H : Heap} : va_P D cls ws H ↔ ∀ q ∈ ws, va_at D cls q H := by
  constructor
  · intro h q hq
    obtain ⟨k, hk⟩ := List.getElem?_of_mem hq
    exact h k q hk
  · intro h k q hk
    exact h q (List.mem_of_getElem? hk)
theorem va_D_iff {A : Nat → Prop} {ws : va_W} : va_D A ws ↔ (ws.map Prod.fst).Nodup ∧ ∀ q ∈ ws, A q.1 := by
  constructor
  · intro h
    refine ⟨?_, fun q hq => ?_⟩
    · rw [List.nodup_iff_pairwise_ne, List.pairwise_iff_getElem]
      intro i j hi hj hij
      rw [List.length_map] at hi hj
      rw [List.getElem_map, List.getElem_map]
      intro z
      have := h.1 i j _ _ (List.getElem?_eq_getElem hi) (List.getElem?_eq_getElem hj) z
      omega
    · obtain ⟨k, hk⟩ := List.getElem?_of_mem hq
      exact h.2 k q hk
  · intro h
    refine ⟨fun i j p q hi hj e => ?_, fun k q hk => h.2 q (List.mem_of_getElem? hk)⟩
    have h1 := h.1
    rw [List.nodup_iff_pairwise_ne, List.pairwise_iff_getElem] at h1
    obtain ⟨i1, i2⟩ := List.getElem?_eq_some_iff.mp hi
    obtain ⟨j1, j2⟩ := List.getElem?_eq_some_iff.mp hj
    rcases Nat.lt_trichotomy i j with z | z | z
    · exact absurd (by rw [List.getElem_map, List.getElem_map, i2, j2]; exact e) (h1 i j (by rw [List.length_map]; exact i1) (by rw [List.length_map]; exact j1) z)
    · exact z
    · exact absurd (by rw [List.getElem_map, List.getElem_map, i2, j2]; exact e.symm) (h1 j i (by rw [List.length_map]; exact j1) (by rw [List.length_map]; exact i1) z)
theorem va_P_perm {D : va_G} {cls : List vw_C} {ws ws' : va_W} {H : Heap} (h : ws.Perm ws') (hP : va_P D cls ws H) : va_P D cls ws' H := va_P_mem.mpr (fun q hq => va_P_mem.mp hP q (h.mem_iff.mpr hq))
theorem va_D_perm {A : Nat → Prop} {ws ws' : va_W} (h : ws.Perm ws') (hD : va_D A ws) : va_D A ws' := by
  obtain ⟨h1, h2⟩ := va_D_iff.mp hD
  exact va_D_iff.mpr ⟨(h.map Prod.fst).nodup_iff.mp h1, fun q hq => h2 q (h.mem_iff.mpr hq)⟩
section MCT
variable {p : Program} {l : Launch} {e : Env} {R : Room} {s : State} {m : MethodId} {args : Array Value} {below : List Frame} {meth : Method} {c : Code} {cl sl : Nat} {g : Geo} {A : Nat → Prop} {nL : Nat} {Q : State → Prop} {cc : ByteArray} {own : String} {pc : Nat} {lv : List (Nat × Value)} {st : List Value} {ws : va_W}
theorem ac_perm {ws' : va_W} (h : ws.Perm ws') (kk : AtC p l e R s m args below meth c g A nL Q cl sl pc lv st ws') : AtC p l e R s m args below meth c g A nL Q cl sl pc lv st ws := fun H locs ls hP hD hS hl => kk H locs ls (va_P_perm h hP) (va_D_perm h hD) hS hl
end MCT
theorem perm_tail {α : Type} (W X : List α) (n : α) : ((W ++ X) ++ [n]).Perm ((W ++ [n]) ++ X) := by
  rw [List.append_assoc, List.append_assoc]
  exact List.Perm.append_left W List.perm_append_comm
def wordsF (j : Int) : Int := ([109, 101, 109, 98, 101, 114, 32, 111, 119, 110, 115, 32, 112, 101, 114, 105, 111, 100, 32, 103, 97, 116, 101, 32, 112, 114, 105, 99, 101, 32, 99, 97, 114, 114, 121, 32, 115, 101, 101, 100, 32] : List Int).getD j.toNat 0
def toldF (j : Int) : Int := ([75, 0, 0, 0, 75, 0, 0, 0] : List Int).getD j.toNat 0
def wch (F : Int → Int) : Nat → (Nat → Int32)
  | 0 => fun _ => 0
  | n + 1 => upd (wch F n) n (Int32.ofInt (F n))
theorem wch_eq (F : Int → Int) : ∀ (n j : Nat), wch F n j = if j < n then Int32.ofInt (F j) else 0 := by
  intro n
  induction n with
  | zero => intro j; rfl
  | succ n ih =>
    intro j
    show (if j = n then Int32.ofInt (F n) else wch F n j) = _
    rw [ih j]
    by_cases h : j = n
    · subst h
      rw [if_pos rfl, if_pos (by omega)]
    · rw [if_neg h]
      by_cases z : j < n
      · rw [if_pos z, if_pos (by omega)]
      · rw [if_neg z, if_neg (by omega)]
theorem wch_all {F : Int → Int} {n : Nat} (h : ∀ j : Nat, n ≤ j → F j = 0) : wch F n = fun j : Nat => Int32.ofInt (F j) := by
  funext j
  rw [wch_eq]
  by_cases z : j < n
  · rw [if_pos z]
  · rw [if_neg z, h j (by omega)]; rfl
def st0 : Sto := (fun k j => if k = 3 ∧ j = 10 then 75 else if k = 16 ∧ j = 10 then 75 else if k = 1 ∧ j = 10 then -1 else if k = 0 ∧ j = 1 then 3 else if k = 0 ∧ j = 2 then 16 else if k = 94 ∧ (j = 5 ∨ j = 31 ∨ j = 38) then -1 else if k = 96 then wordsF j else if k = 100 then toldF j else 0, fun _ _ => 0)

theorem cz0 (g : Geo) : cellE g st0 0 = .inr (11, [.ref (g.2.2 1), .ref (g.2.2 3), .ref (g.2.2 16), .ref (g.2.2 29), .ref (g.2.2 33), .ref (g.2.2 35), .ref (g.2.2 46), .ref (g.2.2 52), .ref (g.2.2 55), .ref (g.2.2 58), .ref (g.2.2 68), .ref (g.2.2 73), .ref (g.2.2 77), .ref (g.2.2 80), .ref (g.2.2 83), .ref (g.2.2 93), vi 0, vi 0]) := rfl
theorem cz1 (g : Geo) : cellE g st0 1 = .inr (8, [.ref (g.2.2 2), vi 0, vi 0, vi 0, vi 0, vi 0, vi 0, vi 0, vi 0, vi 0, vi (-1)]) := rfl
theorem cz2 (g : Geo) : cellE g st0 2 = .inl (g.2.1.2.1, 700, .inl (fun _ => 0)) := rfl
theorem cz3 (g : Geo) : cellE g st0 3 = .inr (0, [.ref (g.2.2 4), .ref (g.2.2 5), .ref (g.2.2 6), .ref (g.2.2 7), .ref (g.2.2 8), .ref (g.2.2 9), .ref (g.2.2 10), .ref (g.2.2 11), vi 0, vi 0, vi 75, vi 0, vi 0, vi 0]) := rfl
theorem cz4 (g : Geo) : cellE g st0 4 = .inl (g.2.1.1, 8, .inl (fun _ => 0)) := rfl
theorem cz5 (g : Geo) : cellE g st0 5 = .inl (g.2.1.1, 8, .inl (fun _ => 0)) := rfl
theorem cz6 (g : Geo) : cellE g st0 6 = .inl (g.2.1.1, 8, .inl (fun _ => 0)) := rfl
theorem cz7 (g : Geo) : cellE g st0 7 = .inl (g.2.1.1, 12, .inl (fun _ => 0)) := rfl
theorem cz8 (g : Geo) : cellE g st0 8 = .inl (g.2.1.1, 12, .inl (fun _ => 0)) := rfl
theorem cz9 (g : Geo) : cellE g st0 9 = .inl (g.2.1.1, 12, .inl (fun _ => 0)) := rfl
theorem cz10 (g : Geo) : cellE g st0 10 = .inl (g.2.1.1, 12, .inl (fun _ => 0)) := rfl
theorem cz11 (g : Geo) : cellE g st0 11 = .inr (7, [.ref (g.2.2 12), .ref (g.2.2 13), .ref (g.2.2 14), .ref (g.2.2 15), vi 0]) := rfl
theorem cz12 (g : Geo) : cellE g st0 12 = .inl (g.2.1.1, 24, .inl (fun _ => 0)) := rfl
theorem cz13 (g : Geo) : cellE g st0 13 = .inl (g.2.1.1, 24, .inl (fun _ => 0)) := rfl
theorem cz14 (g : Geo) : cellE g st0 14 = .inl (g.2.1.1, 24, .inl (fun _ => 0)) := rfl
theorem cz15 (g : Geo) : cellE g st0 15 = .inl (g.2.1.1, 24, .inl (fun _ => 0)) := rfl
theorem cz16 (g : Geo) : cellE g st0 16 = .inr (0, [.ref (g.2.2 17), .ref (g.2.2 18), .ref (g.2.2 19), .ref (g.2.2 20), .ref (g.2.2 21), .ref (g.2.2 22), .ref (g.2.2 23), .ref (g.2.2 24), vi 0, vi 0, vi 75, vi 0, vi 0, vi 0]) := rfl
theorem cz17 (g : Geo) : cellE g st0 17 = .inl (g.2.1.1, 8, .inl (fun _ => 0)) := rfl
theorem cz18 (g : Geo) : cellE g st0 18 = .inl (g.2.1.1, 8, .inl (fun _ => 0)) := rfl
theorem cz19 (g : Geo) : cellE g st0 19 = .inl (g.2.1.1, 8, .inl (fun _ => 0)) := rfl
theorem cz20 (g : Geo) : cellE g st0 20 = .inl (g.2.1.1, 12, .inl (fun _ => 0)) := rfl
theorem cz21 (g : Geo) : cellE g st0 21 = .inl (g.2.1.1, 12, .inl (fun _ => 0)) := rfl
theorem cz22 (g : Geo) : cellE g st0 22 = .inl (g.2.1.1, 12, .inl (fun _ => 0)) := rfl
theorem cz23 (g : Geo) : cellE g st0 23 = .inl (g.2.1.1, 12, .inl (fun _ => 0)) := rfl
theorem cz24 (g : Geo) : cellE g st0 24 = .inr (7, [.ref (g.2.2 25), .ref (g.2.2 26), .ref (g.2.2 27), .ref (g.2.2 28), vi 0]) := rfl
theorem cz25 (g : Geo) : cellE g st0 25 = .inl (g.2.1.1, 24, .inl (fun _ => 0)) := rfl
theorem cz26 (g : Geo) : cellE g st0 26 = .inl (g.2.1.1, 24, .inl (fun _ => 0)) := rfl
theorem cz27 (g : Geo) : cellE g st0 27 = .inl (g.2.1.1, 24, .inl (fun _ => 0)) := rfl
theorem cz28 (g : Geo) : cellE g st0 28 = .inl (g.2.1.1, 24, .inl (fun _ => 0)) := rfl
theorem cz29 (g : Geo) : cellE g st0 29 = .inr (5, [.ref (g.2.2 30), .ref (g.2.2 31), .ref (g.2.2 32), vi 0]) := rfl
theorem cz30 (g : Geo) : cellE g st0 30 = .inl (g.2.1.1, 30, .inl (fun _ => 0)) := rfl
theorem cz31 (g : Geo) : cellE g st0 31 = .inl (g.2.1.1, 30, .inl (fun _ => 0)) := rfl
theorem cz32 (g : Geo) : cellE g st0 32 = .inl (g.2.1.1, 30, .inl (fun _ => 0)) := rfl
theorem cz33 (g : Geo) : cellE g st0 33 = .inr (2, [.ref (g.2.2 34), vi 0]) := rfl
theorem cz34 (g : Geo) : cellE g st0 34 = .inl (g.2.1.1, 100, .inl (fun _ => 0)) := rfl
theorem cz35 (g : Geo) : cellE g st0 35 = .inr (3, [.ref (g.2.2 36), .ref (g.2.2 40), .ref (g.2.2 45), vi 0]) := rfl
theorem cz36 (g : Geo) : cellE g st0 36 = .inr (5, [.ref (g.2.2 37), .ref (g.2.2 38), .ref (g.2.2 39), vi 0]) := rfl
theorem cz37 (g : Geo) : cellE g st0 37 = .inl (g.2.1.1, 30, .inl (fun _ => 0)) := rfl
theorem cz38 (g : Geo) : cellE g st0 38 = .inl (g.2.1.1, 30, .inl (fun _ => 0)) := rfl
theorem cz39 (g : Geo) : cellE g st0 39 = .inl (g.2.1.1, 30, .inl (fun _ => 0)) := rfl
theorem cz40 (g : Geo) : cellE g st0 40 = .inr (7, [.ref (g.2.2 41), .ref (g.2.2 42), .ref (g.2.2 43), .ref (g.2.2 44), vi 0]) := rfl
theorem cz41 (g : Geo) : cellE g st0 41 = .inl (g.2.1.1, 24, .inl (fun _ => 0)) := rfl
theorem cz42 (g : Geo) : cellE g st0 42 = .inl (g.2.1.1, 24, .inl (fun _ => 0)) := rfl
theorem cz43 (g : Geo) : cellE g st0 43 = .inl (g.2.1.1, 24, .inl (fun _ => 0)) := rfl
theorem cz44 (g : Geo) : cellE g st0 44 = .inl (g.2.1.1, 24, .inl (fun _ => 0)) := rfl
theorem cz45 (g : Geo) : cellE g st0 45 = .inl (g.2.1.1, 12, .inl (fun _ => 0)) := rfl
theorem cz46 (g : Geo) : cellE g st0 46 = .inr (10, [.ref (g.2.2 47), .ref (g.2.2 48), .ref (g.2.2 49), .ref (g.2.2 50), .ref (g.2.2 51), vi 0]) := rfl
theorem cz47 (g : Geo) : cellE g st0 47 = .inl (g.2.1.1, 64, .inl (fun _ => 0)) := rfl
theorem cz48 (g : Geo) : cellE g st0 48 = .inl (g.2.1.1, 64, .inl (fun _ => 0)) := rfl
theorem cz49 (g : Geo) : cellE g st0 49 = .inl (g.2.1.2.2.1, 64, .inr (.inr (.inl (fun _ => 0)))) := rfl
theorem cz50 (g : Geo) : cellE g st0 50 = .inl (g.2.1.1, 8, .inl (fun _ => 0)) := rfl
theorem cz51 (g : Geo) : cellE g st0 51 = .inl (g.2.1.1, 8, .inl (fun _ => 0)) := rfl
theorem cz52 (g : Geo) : cellE g st0 52 = .inr (4, [.ref (g.2.2 53), .ref (g.2.2 54), vi 0]) := rfl
theorem cz53 (g : Geo) : cellE g st0 53 = .inl (g.2.1.1, 25, .inl (fun _ => 0)) := rfl
theorem cz54 (g : Geo) : cellE g st0 54 = .inl (g.2.1.1, 200, .inl (fun _ => 0)) := rfl
theorem cz55 (g : Geo) : cellE g st0 55 = .inr (6, [.ref (g.2.2 56), .ref (g.2.2 57)]) := rfl
theorem cz56 (g : Geo) : cellE g st0 56 = .inl (g.2.1.1, 144, .inl (fun _ => 0)) := rfl
theorem cz57 (g : Geo) : cellE g st0 57 = .inl (g.2.1.1, 144, .inl (fun _ => 0)) := rfl
theorem cz58 (g : Geo) : cellE g st0 58 = .inr (1, [.ref (g.2.2 59), .ref (g.2.2 60), .ref (g.2.2 61), .ref (g.2.2 62), .ref (g.2.2 63), .ref (g.2.2 64), .ref (g.2.2 65), .ref (g.2.2 66), .ref (g.2.2 67), vi 0, vi 0, vi 0, vi 0, vi 0]) := rfl
theorem cz59 (g : Geo) : cellE g st0 59 = .inl (g.2.1.1, 12, .inl (fun _ => 0)) := rfl
theorem cz60 (g : Geo) : cellE g st0 60 = .inl (g.2.1.1, 12, .inl (fun _ => 0)) := rfl
theorem cz61 (g : Geo) : cellE g st0 61 = .inl (g.2.1.1, 144, .inl (fun _ => 0)) := rfl
theorem cz62 (g : Geo) : cellE g st0 62 = .inl (g.2.1.1, 144, .inl (fun _ => 0)) := rfl
theorem cz63 (g : Geo) : cellE g st0 63 = .inl (g.2.1.1, 144, .inl (fun _ => 0)) := rfl
theorem cz64 (g : Geo) : cellE g st0 64 = .inl (g.2.1.1, 12, .inl (fun _ => 0)) := rfl
theorem cz65 (g : Geo) : cellE g st0 65 = .inl (g.2.1.1, 12, .inl (fun _ => 0)) := rfl
theorem cz66 (g : Geo) : cellE g st0 66 = .inl (g.2.1.1, 12, .inl (fun _ => 0)) := rfl
theorem cz67 (g : Geo) : cellE g st0 67 = .inl (g.2.1.1, 12, .inl (fun _ => 0)) := rfl
theorem cz68 (g : Geo) : cellE g st0 68 = .inr (9, [.ref (g.2.2 69), .ref (g.2.2 70), .ref (g.2.2 71), .ref (g.2.2 72), vi 0]) := rfl
theorem cz69 (g : Geo) : cellE g st0 69 = .inl (g.2.1.1, 8, .inl (fun _ => 0)) := rfl
theorem cz70 (g : Geo) : cellE g st0 70 = .inl (g.2.1.1, 8, .inl (fun _ => 0)) := rfl
theorem cz71 (g : Geo) : cellE g st0 71 = .inl (g.2.1.1, 8, .inl (fun _ => 0)) := rfl
theorem cz72 (g : Geo) : cellE g st0 72 = .inl (g.2.1.1, 8, .inl (fun _ => 0)) := rfl
theorem cz73 (g : Geo) : cellE g st0 73 = .inr (5, [.ref (g.2.2 74), .ref (g.2.2 75), .ref (g.2.2 76), vi 0]) := rfl
theorem cz74 (g : Geo) : cellE g st0 74 = .inl (g.2.1.1, 30, .inl (fun _ => 0)) := rfl
theorem cz75 (g : Geo) : cellE g st0 75 = .inl (g.2.1.1, 30, .inl (fun _ => 0)) := rfl
theorem cz76 (g : Geo) : cellE g st0 76 = .inl (g.2.1.1, 30, .inl (fun _ => 0)) := rfl
theorem cz77 (g : Geo) : cellE g st0 77 = .inr (4, [.ref (g.2.2 78), .ref (g.2.2 79), vi 0]) := rfl
theorem cz78 (g : Geo) : cellE g st0 78 = .inl (g.2.1.1, 25, .inl (fun _ => 0)) := rfl
theorem cz79 (g : Geo) : cellE g st0 79 = .inl (g.2.1.1, 200, .inl (fun _ => 0)) := rfl
theorem cz80 (g : Geo) : cellE g st0 80 = .inr (6, [.ref (g.2.2 81), .ref (g.2.2 82)]) := rfl
theorem cz81 (g : Geo) : cellE g st0 81 = .inl (g.2.1.1, 144, .inl (fun _ => 0)) := rfl
theorem cz82 (g : Geo) : cellE g st0 82 = .inl (g.2.1.1, 144, .inl (fun _ => 0)) := rfl
theorem cz83 (g : Geo) : cellE g st0 83 = .inr (1, [.ref (g.2.2 84), .ref (g.2.2 85), .ref (g.2.2 86), .ref (g.2.2 87), .ref (g.2.2 88), .ref (g.2.2 89), .ref (g.2.2 90), .ref (g.2.2 91), .ref (g.2.2 92), vi 0, vi 0, vi 0, vi 0, vi 0]) := rfl
theorem cz84 (g : Geo) : cellE g st0 84 = .inl (g.2.1.1, 12, .inl (fun _ => 0)) := rfl
theorem cz85 (g : Geo) : cellE g st0 85 = .inl (g.2.1.1, 12, .inl (fun _ => 0)) := rfl
theorem cz86 (g : Geo) : cellE g st0 86 = .inl (g.2.1.1, 144, .inl (fun _ => 0)) := rfl
theorem cz87 (g : Geo) : cellE g st0 87 = .inl (g.2.1.1, 144, .inl (fun _ => 0)) := rfl
theorem cz88 (g : Geo) : cellE g st0 88 = .inl (g.2.1.1, 144, .inl (fun _ => 0)) := rfl
theorem cz89 (g : Geo) : cellE g st0 89 = .inl (g.2.1.1, 12, .inl (fun _ => 0)) := rfl
theorem cz90 (g : Geo) : cellE g st0 90 = .inl (g.2.1.1, 12, .inl (fun _ => 0)) := rfl
theorem cz91 (g : Geo) : cellE g st0 91 = .inl (g.2.1.1, 12, .inl (fun _ => 0)) := rfl
theorem cz92 (g : Geo) : cellE g st0 92 = .inl (g.2.1.1, 12, .inl (fun _ => 0)) := rfl
theorem cz93 (g : Geo) : cellE g st0 93 = .inl (g.2.1.1, 12, .inl (fun _ => 0)) := rfl
theorem cz94 (g : Geo) : cellE g st0 94 = .inr (12, [.ref (g.2.2 95), vi 0, vi 0, .ref (g.2.2 96), vi 0, vi (-1), vi 0, vi 0, vi 0, vi 0, vi 0, vi 0, vi 0, .ref (g.2.2 97), vi 0, vi 0, .ref (g.2.2 98), vi 0, vi 0, .ref (g.2.2 99), .ref (g.2.2 100), vi 0, vi 0, .ref (g.2.2 101), vi 0, vi 0, vi 0, .ref (g.2.2 102), .ref (g.2.2 103), .ref (g.2.2 104), vi 0, vi (-1), vi 0, vi 0, .ref (g.2.2 105), .ref (g.2.2 106), .ref (g.2.2 107), vi 0, vi (-1), .ref (g.2.2 108), .ref (g.2.2 109), .ref (g.2.2 110), .ref (g.2.2 111), .ref (g.2.2 112), vi 0, vi 0, vi 0, .long 0]) := rfl
theorem cz95 (g : Geo) : cellE g st0 95 = .inl (g.2.1.1, 700, .inl (fun _ => 0)) := rfl
theorem cz96 (g : Geo) : cellE g st0 96 = .inl (g.2.1.1, 41, .inl (wch wordsF 41)) := by
  rw [cell_i kd96, wch_all (F := wordsF) (n := 41) (fun j hj => by unfold wordsF; rw [List.getD_eq_getElem?_getD, List.getElem?_eq_none (by rw [Int.toNat_natCast]; exact hj)]; rfl)]; rfl
theorem cz97 (g : Geo) : cellE g st0 97 = .inl (g.2.1.1, 48, .inl (fun _ => 0)) := rfl
theorem cz98 (g : Geo) : cellE g st0 98 = .inl (g.2.1.1, 96, .inl (fun _ => 0)) := rfl
theorem cz99 (g : Geo) : cellE g st0 99 = .inl (g.2.1.1, 128, .inl (fun _ => 0)) := rfl
theorem cz100 (g : Geo) : cellE g st0 100 = .inl (g.2.1.1, 8, .inl (wch toldF 8)) := by
  rw [cell_i kd100, wch_all (F := toldF) (n := 8) (fun j hj => by unfold toldF; rw [List.getD_eq_getElem?_getD, List.getElem?_eq_none (by rw [Int.toNat_natCast]; exact hj)]; rfl)]; rfl
theorem cz101 (g : Geo) : cellE g st0 101 = .inl (g.2.1.1, 4600, .inl (fun _ => 0)) := rfl
theorem cz102 (g : Geo) : cellE g st0 102 = .inl (g.2.1.2.2.1, 64, .inr (.inr (.inl (fun _ => 0)))) := rfl
theorem cz103 (g : Geo) : cellE g st0 103 = .inl (g.2.1.1, 26, .inl (fun _ => 0)) := rfl
theorem cz104 (g : Geo) : cellE g st0 104 = .inl (g.2.1.1, 208, .inl (fun _ => 0)) := rfl
theorem cz105 (g : Geo) : cellE g st0 105 = .inl (g.2.1.1, 12, .inl (fun _ => 0)) := rfl
theorem cz106 (g : Geo) : cellE g st0 106 = .inl (g.2.1.1, 144, .inl (fun _ => 0)) := rfl
theorem cz107 (g : Geo) : cellE g st0 107 = .inl (g.2.1.1, 144, .inl (fun _ => 0)) := rfl
theorem cz108 (g : Geo) : cellE g st0 108 = .inl (g.2.1.1, 12, .inl (fun _ => 0)) := rfl
theorem cz109 (g : Geo) : cellE g st0 109 = .inl (g.2.1.1, 12, .inl (fun _ => 0)) := rfl
theorem cz110 (g : Geo) : cellE g st0 110 = .inl (g.2.1.1, 156, .inl (fun _ => 0)) := rfl
theorem cz111 (g : Geo) : cellE g st0 111 = .inl (g.2.1.1, 64, .inl (fun _ => 0)) := rfl
theorem cz112 (g : Geo) : cellE g st0 112 = .inl (g.2.1.1, 8, .inl (fun _ => 0)) := rfl
theorem wm_75 : Cond.methodLink RX12 75 yX12_plain ∈ lwg := lwt6 (i := 3) (by decide +kernel) (by decide +kernel)
theorem wm_78 : Cond.methodLink RX12 78 yX12_keepText ∈ lwg := lwt6 (i := 7) (by decide +kernel) (by decide +kernel)
theorem ob_12_1 : Cond.methodLink RX12 1 Lib.objectInit ∈ lwg := lwt6 (i := 2) (by decide +kernel) (by decide +kernel)
theorem fuf_12_7 : FUF RX12 7 12 0 (.array .int) := ⟨RX12, TX12, 48, tyX12, rfl, by decide, inw12, lwt6 (i := 18) (by decide +kernel) rfl, tyX12_ok, nmX12, rfl, rfl, by decide +kernel⟩
theorem fuf_12_13 : FUF RX12 13 12 3 (.array .int) := ⟨RX12, TX12, 48, tyX12, rfl, by decide, inw12, lwt6 (i := 21) (by decide +kernel) rfl, tyX12_ok, nmX12, rfl, rfl, by decide +kernel⟩
theorem fuf_12_20 : FUF RX12 20 12 13 (.array .int) := ⟨RX12, TX12, 48, tyX12, rfl, by decide, inw12, lwt6 (i := 31) (by decide +kernel) rfl, tyX12_ok, nmX12, rfl, rfl, by decide +kernel⟩
theorem fuf_12_23 : FUF RX12 23 12 16 (.array .int) := ⟨RX12, TX12, 48, tyX12, rfl, by decide, inw12, lwt6 (i := 34) (by decide +kernel) rfl, tyX12_ok, nmX12, rfl, rfl, by decide +kernel⟩
theorem fuf_12_26 : FUF RX12 26 12 19 (.array .int) := ⟨RX12, TX12, 48, tyX12, rfl, by decide, inw12, lwt6 (i := 37) (by decide +kernel) rfl, tyX12_ok, nmX12, rfl, rfl, by decide +kernel⟩
theorem fuf_12_29 : FUF RX12 29 12 20 (.array .int) := ⟨RX12, TX12, 48, tyX12, rfl, by decide, inw12, lwt6 (i := 38) (by decide +kernel) rfl, tyX12_ok, nmX12, rfl, rfl, by decide +kernel⟩
theorem fuf_12_32 : FUF RX12 32 12 23 (.array .int) := ⟨RX12, TX12, 48, tyX12, rfl, by decide, inw12, lwt6 (i := 41) (by decide +kernel) rfl, tyX12_ok, nmX12, rfl, rfl, by decide +kernel⟩
theorem fuf_12_35 : FUF RX12 35 12 27 (.array .float) := ⟨RX12, TX12, 48, tyX12, rfl, by decide, inw12, lwt6 (i := 45) (by decide +kernel) rfl, tyX12_ok, nmX12, rfl, rfl, by decide +kernel⟩
theorem fuf_12_39 : FUF RX12 39 12 28 (.array .int) := ⟨RX12, TX12, 48, tyX12, rfl, by decide, inw12, lwt6 (i := 46) (by decide +kernel) rfl, tyX12_ok, nmX12, rfl, rfl, by decide +kernel⟩
theorem fuf_12_42 : FUF RX12 42 12 29 (.array .int) := ⟨RX12, TX12, 48, tyX12, rfl, by decide, inw12, lwt6 (i := 47) (by decide +kernel) rfl, tyX12_ok, nmX12, rfl, rfl, by decide +kernel⟩
theorem fuf_12_48 : FUF RX12 48 12 34 (.array .int) := ⟨RX12, TX12, 48, tyX12, rfl, by decide, inw12, lwt6 (i := 52) (by decide +kernel) rfl, tyX12_ok, nmX12, rfl, rfl, by decide +kernel⟩
theorem fuf_12_51 : FUF RX12 51 12 35 (.array .int) := ⟨RX12, TX12, 48, tyX12, rfl, by decide, inw12, lwt6 (i := 53) (by decide +kernel) rfl, tyX12_ok, nmX12, rfl, rfl, by decide +kernel⟩
theorem fuf_12_54 : FUF RX12 54 12 36 (.array .int) := ⟨RX12, TX12, 48, tyX12, rfl, by decide, inw12, lwt6 (i := 54) (by decide +kernel) rfl, tyX12_ok, nmX12, rfl, rfl, by decide +kernel⟩
theorem fuf_12_60 : FUF RX12 60 12 39 (.array .int) := ⟨RX12, TX12, 48, tyX12, rfl, by decide, inw12, lwt6 (i := 57) (by decide +kernel) rfl, tyX12_ok, nmX12, rfl, rfl, by decide +kernel⟩
theorem fuf_12_63 : FUF RX12 63 12 40 (.array .int) := ⟨RX12, TX12, 48, tyX12, rfl, by decide, inw12, lwt6 (i := 58) (by decide +kernel) rfl, tyX12_ok, nmX12, rfl, rfl, by decide +kernel⟩
theorem fuf_12_66 : FUF RX12 66 12 41 (.array .int) := ⟨RX12, TX12, 48, tyX12, rfl, by decide, inw12, lwt6 (i := 59) (by decide +kernel) rfl, tyX12_ok, nmX12, rfl, rfl, by decide +kernel⟩
theorem fuf_12_69 : FUF RX12 69 12 42 (.array .int) := ⟨RX12, TX12, 48, tyX12, rfl, by decide, inw12, lwt6 (i := 60) (by decide +kernel) rfl, tyX12_ok, nmX12, rfl, rfl, by decide +kernel⟩
theorem fuf_12_72 : FUF RX12 72 12 43 (.array .int) := ⟨RX12, TX12, 48, tyX12, rfl, by decide, inw12, lwt6 (i := 61) (by decide +kernel) rfl, tyX12_ok, nmX12, rfl, rfl, by decide +kernel⟩
abbrev rn_X12 : Room := { frames := 2, cells := 18, slots := 6471, locals := 43 }
abbrev df12 : List Value := [.null, .int 0, .int 0, .null, .int 0, .int 0, .int 0, .int 0, .int 0, .int 0, .int 0, .int 0, .int 0, .null, .int 0, .int 0, .null, .int 0, .int 0, .null, .null, .int 0, .int 0, .null, .int 0, .int 0, .int 0, .null, .null, .null, .int 0, .int 0, .int 0, .int 0, .null, .null, .null, .int 0, .int 0, .null, .null, .null, .null, .null, .int 0, .int 0, .int 0, .long 0]
abbrev w012 (g : Geo) (a : Nat → Nat) (h0 : Nat) : va_W := [(h0, .inr (12, df12))] ++ wX11 g a
abbrev pidx (k : Nat) : Nat := if k < 94 then k + 19 else k - 94
abbrev P12 (g : Geo) (a : Nat → Nat) (h0 sz : Nat) : Array Value → State → Prop := va_Pc [.ref h0] (fun U => U.heap.size = sz ∧ va_P g.1 vwCl (w012 g a h0) U.heap ∧ va_D (fun _ => True) (w012 g a h0) ∧ va_K g.1 vwCl (tysG g) U ∧ LWF g (va_A (w012 g a h0) sz) U U.heap)
def G12 (g : Geo) (a : Nat → Nat) (h0 : Nat) (σ : Sto) (g' : Geo) : Prop := g'.1 = g.1 ∧ g'.2.1 = g.2.1 ∧ (∀ k, k < 94 → g'.2.2 k = a k) ∧ g'.2.2 94 = h0 ∧ g'.2.2 200 = g.2.2 200 ∧ npo g' = 113 ∧ Inj g' ∧ OK σ
abbrev Q12 (g : Geo) (a : Nat → Nat) (h0 sz : Nat) (σ : Sto) : Array Value → State → Outcome → State → Prop := va_Qv (G12 g a h0 σ) (fun g' t => va_P g'.1 vwCl (wd g' σ) t.heap) (va_A (w012 g a h0) sz)
abbrev g12 (g : Geo) (a : Nat → Nat) (h0 q1 q2 q3 q4 q5 q6 q7 q8 q9 q10 q11 q12 q13 q14 q15 q16 q17 q18 : Nat) : Geo := (g.1, g.2.1, fun k => ([a 0, a 1, a 2, a 3, a 4, a 5, a 6, a 7, a 8, a 9, a 10, a 11, a 12, a 13, a 14, a 15, a 16, a 17, a 18, a 19, a 20, a 21, a 22, a 23, a 24, a 25, a 26, a 27, a 28, a 29, a 30, a 31, a 32, a 33, a 34, a 35, a 36, a 37, a 38, a 39, a 40, a 41, a 42, a 43, a 44, a 45, a 46, a 47, a 48, a 49, a 50, a 51, a 52, a 53, a 54, a 55, a 56, a 57, a 58, a 59, a 60, a 61, a 62, a 63, a 64, a 65, a 66, a 67, a 68, a 69, a 70, a 71, a 72, a 73, a 74, a 75, a 76, a 77, a 78, a 79, a 80, a 81, a 82, a 83, a 84, a 85, a 86, a 87, a 88, a 89, a 90, a 91, a 92, a 93, h0, q1, q2, q3, q4, q5, q6, q7, q8, q9, q10, q11, q12, q13, q14, q15, q16, q17, q18] : List Nat).getD k (if k = 200 then g.2.2 200 else if k = 300 then 113 else 0))
abbrev m12 (g : Geo) (h0 q1 q2 q3 q4 q5 q6 q7 q8 q9 q10 q11 q12 q13 q14 q15 q16 q17 q18 : Nat) : va_W := [(h0, .inr (12, [.ref q1, .int 0, .int 0, .ref q2, .int 0, vi (-1), .int 0, .int 0, .int 0, .int 0, .int 0, .int 0, .int 0, .ref q3, .int 0, .int 0, .ref q4, .int 0, .int 0, .ref q5, .ref q6, .int 0, .int 0, .ref q7, .int 0, .int 0, .int 0, .ref q8, .ref q9, .ref q10, .int 0, vi (-1), .int 0, .int 0, .ref q11, .ref q12, .ref q13, .int 0, vi (-1), .ref q14, .ref q15, .ref q16, .ref q17, .ref q18, .int 0, .int 0, .int 0, .long 0])), (q1, .inl (g.2.1.1, 700, .inl (fun _ => 0))), (q2, .inl (g.2.1.1, 41, .inl (wch wordsF 41))), (q3, .inl (g.2.1.1, 48, .inl (fun _ => 0))), (q4, .inl (g.2.1.1, 96, .inl (fun _ => 0))), (q5, .inl (g.2.1.1, 128, .inl (fun _ => 0))), (q6, .inl (g.2.1.1, 8, .inl (wch toldF 8))), (q7, .inl (g.2.1.1, 4600, .inl (fun _ => 0))), (q8, .inl (g.2.1.2.2.1, 64, .inr (.inr (.inl (fun _ => 0))))), (q9, .inl (g.2.1.1, 26, .inl (fun _ => 0))), (q10, .inl (g.2.1.1, 208, .inl (fun _ => 0))), (q11, .inl (g.2.1.1, 12, .inl (fun _ => 0))), (q12, .inl (g.2.1.1, 144, .inl (fun _ => 0))), (q13, .inl (g.2.1.1, 144, .inl (fun _ => 0))), (q14, .inl (g.2.1.1, 12, .inl (fun _ => 0))), (q15, .inl (g.2.1.1, 12, .inl (fun _ => 0))), (q16, .inl (g.2.1.1, 156, .inl (fun _ => 0))), (q17, .inl (g.2.1.1, 64, .inl (fun _ => 0))), (q18, .inl (g.2.1.1, 8, .inl (fun _ => 0)))]
set_option maxHeartbeats 4000000 in
set_option maxRecDepth 100000 in
theorem at12 (g : Geo) (a : Nat → Nat) (h0 q1 q2 q3 q4 q5 q6 q7 q8 q9 q10 q11 q12 q13 q14 q15 q16 q17 q18 : Nat) : ∀ k, k < 113 → (m12 g h0 q1 q2 q3 q4 q5 q6 q7 q8 q9 q10 q11 q12 q13 q14 q15 q16 q17 q18 ++ wX11 g a)[pidx k]? = some ((g12 g a h0 q1 q2 q3 q4 q5 q6 q7 q8 q9 q10 q11 q12 q13 q14 q15 q16 q17 q18).2.2 k, cellE (g12 g a h0 q1 q2 q3 q4 q5 q6 q7 q8 q9 q10 q11 q12 q13 q14 q15 q16 q17 q18) st0 k) := by
  intro k hk
  match k, hk with
  | 0, _ => rw [cz0]; rfl
  | 1, _ => rw [cz1]; rfl
  | 2, _ => rw [cz2]; rfl
  | 3, _ => rw [cz3]; rfl
  | 4, _ => rw [cz4]; rfl
  | 5, _ => rw [cz5]; rfl
  | 6, _ => rw [cz6]; rfl
  | 7, _ => rw [cz7]; rfl
  | 8, _ => rw [cz8]; rfl
  | 9, _ => rw [cz9]; rfl
  | 10, _ => rw [cz10]; rfl
  | 11, _ => rw [cz11]; rfl
  | 12, _ => rw [cz12]; rfl
  | 13, _ => rw [cz13]; rfl
  | 14, _ => rw [cz14]; rfl
  | 15, _ => rw [cz15]; rfl
  | 16, _ => rw [cz16]; rfl
  | 17, _ => rw [cz17]; rfl
  | 18, _ => rw [cz18]; rfl
  | 19, _ => rw [cz19]; rfl
  | 20, _ => rw [cz20]; rfl
  | 21, _ => rw [cz21]; rfl
  | 22, _ => rw [cz22]; rfl
  | 23, _ => rw [cz23]; rfl
  | 24, _ => rw [cz24]; rfl
  | 25, _ => rw [cz25]; rfl
  | 26, _ => rw [cz26]; rfl
  | 27, _ => rw [cz27]; rfl
  | 28, _ => rw [cz28]; rfl
  | 29, _ => rw [cz29]; rfl
  | 30, _ => rw [cz30]; rfl
  | 31, _ => rw [cz31]; rfl
  | 32, _ => rw [cz32]; rfl
  | 33, _ => rw [cz33]; rfl
  | 34, _ => rw [cz34]; rfl
  | 35, _ => rw [cz35]; rfl
  | 36, _ => rw [cz36]; rfl
  | 37, _ => rw [cz37]; rfl
  | 38, _ => rw [cz38]; rfl
  | 39, _ => rw [cz39]; rfl
  | 40, _ => rw [cz40]; rfl
  | 41, _ => rw [cz41]; rfl
  | 42, _ => rw [cz42]; rfl
  | 43, _ => rw [cz43]; rfl
  | 44, _ => rw [cz44]; rfl
  | 45, _ => rw [cz45]; rfl
  | 46, _ => rw [cz46]; rfl
  | 47, _ => rw [cz47]; rfl
  | 48, _ => rw [cz48]; rfl
  | 49, _ => rw [cz49]; rfl
  | 50, _ => rw [cz50]; rfl
  | 51, _ => rw [cz51]; rfl
  | 52, _ => rw [cz52]; rfl
  | 53, _ => rw [cz53]; rfl
  | 54, _ => rw [cz54]; rfl
  | 55, _ => rw [cz55]; rfl
  | 56, _ => rw [cz56]; rfl
  | 57, _ => rw [cz57]; rfl
  | 58, _ => rw [cz58]; rfl
  | 59, _ => rw [cz59]; rfl
  | 60, _ => rw [cz60]; rfl
  | 61, _ => rw [cz61]; rfl
  | 62, _ => rw [cz62]; rfl
  | 63, _ => rw [cz63]; rfl
  | 64, _ => rw [cz64]; rfl
  | 65, _ => rw [cz65]; rfl
  | 66, _ => rw [cz66]; rfl
  | 67, _ => rw [cz67]; rfl
  | 68, _ => rw [cz68]; rfl
  | 69, _ => rw [cz69]; rfl
  | 70, _ => rw [cz70]; rfl
  | 71, _ => rw [cz71]; rfl
  | 72, _ => rw [cz72]; rfl
  | 73, _ => rw [cz73]; rfl
  | 74, _ => rw [cz74]; rfl
  | 75, _ => rw [cz75]; rfl
  | 76, _ => rw [cz76]; rfl
  | 77, _ => rw [cz77]; rfl
  | 78, _ => rw [cz78]; rfl
  | 79, _ => rw [cz79]; rfl
  | 80, _ => rw [cz80]; rfl
  | 81, _ => rw [cz81]; rfl
  | 82, _ => rw [cz82]; rfl
  | 83, _ => rw [cz83]; rfl
  | 84, _ => rw [cz84]; rfl
  | 85, _ => rw [cz85]; rfl
  | 86, _ => rw [cz86]; rfl
  | 87, _ => rw [cz87]; rfl
  | 88, _ => rw [cz88]; rfl
  | 89, _ => rw [cz89]; rfl
  | 90, _ => rw [cz90]; rfl
  | 91, _ => rw [cz91]; rfl
  | 92, _ => rw [cz92]; rfl
  | 93, _ => rw [cz93]; rfl
  | 94, _ => rw [cz94]; rfl
  | 95, _ => rw [cz95]; rfl
  | 96, _ => rw [cz96]; rfl
  | 97, _ => rw [cz97]; rfl
  | 98, _ => rw [cz98]; rfl
  | 99, _ => rw [cz99]; rfl
  | 100, _ => rw [cz100]; rfl
  | 101, _ => rw [cz101]; rfl
  | 102, _ => rw [cz102]; rfl
  | 103, _ => rw [cz103]; rfl
  | 104, _ => rw [cz104]; rfl
  | 105, _ => rw [cz105]; rfl
  | 106, _ => rw [cz106]; rfl
  | 107, _ => rw [cz107]; rfl
  | 108, _ => rw [cz108]; rfl
  | 109, _ => rw [cz109]; rfl
  | 110, _ => rw [cz110]; rfl
  | 111, _ => rw [cz111]; rfl
  | 112, _ => rw [cz112]; rfl
  | k + 113, hk => exact absurd hk (by omega)
set_option maxHeartbeats 4000000 in
set_option maxRecDepth 100000 in
theorem n_X12_init (l : Launch) (g : Geo) (a : Nat → Nat) (N : Nat) (σ1 σ2 : Sto) (ok0 : OK st0) (hF1 : F_X12_plain N st0 = some σ1) (hF2 : F_X12_keepText N σ1 = some σ2) (h0 sz : Nat) : Met l yX12_init (CW yX12_init cX12_init 1 none) rn_X12 (P12 g a h0 sz) (Q12 g a h0 sz σ2) 18 6471 (va_A (w012 g a h0) sz) := by
  refine Met.ofW (cc := cX12_init) (maxL := 1) (ret := none) (by decide +kernel) rfl ?_
  intro p e s m args below meth c s₁ B hml hv
  obtain ⟨rfl, hsz, hP, hD0, hK, hLW⟩ := hv
  subst hsz
  have hts := atoms_spec (ws := CW yX12_init cX12_init 1 none) B.pre
  have hown : s.vm.findClass RX12 = some m.cls := findClass_of_methodNamed B.named
  have hin : meth.name = yX12_init.name := (name_of_methodNamed B.named B.method).1
  have hl := lv_entry [.ref h0] (n := 1) (Nat.le_refl 1)
  rw [lg_entry_eq]
  have hr := B.returns
  have hlk := B.notSynchronized
  have hts' : ∀ w ∈ lwg, w.before ([Value.ref h0] : List Value).toArray s = true := fun w hw => hts w (List.mem_cons_of_mem _ hw)
  have C : Cc p s m ([Value.ref h0] : List Value).toArray meth c cX12_init RX12 1 g (va_A (w012 g a h0) s.heap.size) := ⟨B.exec, B.bytes, hml, hown, hts', hK, fun q h => Or.inr h, hin⟩
  have K : AtC p l e rn_X12 s m ([Value.ref h0] : List Value).toArray below meth c g (va_A (w012 g a h0) s.heap.size) 1 (MQ below (Q12 g a h0 s.heap.size σ2) ([Value.ref h0] : List Value).toArray s 18 6471 (va_A (w012 g a h0) s.heap.size)) 0 0 0 [(0, .ref h0)] [] (w012 g a h0) := by
    refine ac_aload_n (pc := 0) C 0 dX12_init_0 rfl rfl ?_
    refine ac_obj (pc := 1) C ob_12_1 oi_i oi_c ⟨Nat.le_of_ble_eq_true rfl, Nat.le_of_ble_eq_true rfl⟩ dX12_init_1 ?_
    refine ac_aload_n (pc := 4) C 0 dX12_init_4 rfl rfl ?_
    refine ac_sipush (pc := 5) C dX12_init_5 (by decide) ?_
    refine ac_newa (pc := 8) (atype := .int) (ty := .int) (cA := g.2.1.1) (a0 := (700, .inl (fun _ => 0))) (N' := 700) (cl' := 1) (sl' := 700) C 0 rfl (Or.inl rfl) ar_int rfl (fun _ => rfl) rfl (Nat.le_of_ble_eq_true rfl) rfl rfl ⟨Nat.le_of_ble_eq_true rfl, Nat.le_of_ble_eq_true rfl⟩ dX12_init_8 (fun q1 => ?_)
    refine ac_perm (ws' := [(h0, .inr (12, [.null, .int 0, .int 0, .null, .int 0, .int 0, .int 0, .int 0, .int 0, .int 0, .int 0, .int 0, .int 0, .null, .int 0, .int 0, .null, .int 0, .int 0, .null, .null, .int 0, .int 0, .null, .int 0, .int 0, .int 0, .null, .null, .null, .int 0, .int 0, .int 0, .int 0, .null, .null, .null, .int 0, .int 0, .null, .null, .null, .null, .null, .int 0, .int 0, .int 0, .long 0])), (q1, .inl (g.2.1.1, 700, .inl (fun _ => 0)))] ++ wX11 g a) (perm_tail _ _ _) ?_
    refine ac_putF (pc := 10) (ws' := [(h0, .inr (12, [.ref q1, .int 0, .int 0, .null, .int 0, .int 0, .int 0, .int 0, .int 0, .int 0, .int 0, .int 0, .int 0, .null, .int 0, .int 0, .null, .int 0, .int 0, .null, .null, .int 0, .int 0, .null, .int 0, .int 0, .int 0, .null, .null, .null, .int 0, .int 0, .int 0, .int 0, .null, .null, .null, .int 0, .int 0, .null, .null, .null, .null, .null, .int 0, .int 0, .int 0, .long 0])), (q1, .inl (g.2.1.1, 700, .inl (fun _ => 0)))] ++ wX11 g a) C 0 fuf_12_7 rfl rfl rfl (Nat.le_of_ble_eq_true rfl) rfl dX12_init_10 ?_
    refine ac_aload_n (pc := 13) C 0 dX12_init_13 rfl rfl ?_
    refine ac_bipush (pc := 14) C dX12_init_14 (by decide) ?_
    refine ac_newa (pc := 16) (atype := .int) (ty := .int) (cA := g.2.1.1) (a0 := (41, .inl (fun _ => 0))) (N' := 41) (cl' := 2) (sl' := 741) C 0 rfl (Or.inl rfl) ar_int rfl (fun _ => rfl) rfl (Nat.le_of_ble_eq_true rfl) rfl rfl ⟨Nat.le_of_ble_eq_true rfl, Nat.le_of_ble_eq_true rfl⟩ dX12_init_16 (fun q2 => ?_)
    refine ac_perm (ws' := [(h0, .inr (12, [.ref q1, .int 0, .int 0, .null, .int 0, .int 0, .int 0, .int 0, .int 0, .int 0, .int 0, .int 0, .int 0, .null, .int 0, .int 0, .null, .int 0, .int 0, .null, .null, .int 0, .int 0, .null, .int 0, .int 0, .int 0, .null, .null, .null, .int 0, .int 0, .int 0, .int 0, .null, .null, .null, .int 0, .int 0, .null, .null, .null, .null, .null, .int 0, .int 0, .int 0, .long 0])), (q1, .inl (g.2.1.1, 700, .inl (fun _ => 0))), (q2, .inl (g.2.1.1, 41, .inl (fun _ => 0)))] ++ wX11 g a) (perm_tail _ _ _) ?_
    refine ac_dup (pc := 18) C dX12_init_18 rfl ?_
    refine ac_iconst (pc := 19) C dX12_init_19 ?_
    refine ac_bipush (pc := 20) C dX12_init_20 (by decide) ?_
    refine ac_iast (pc := 22) (f := wch wordsF 0) (ws' := [(h0, .inr (12, [.ref q1, .int 0, .int 0, .null, .int 0, .int 0, .int 0, .int 0, .int 0, .int 0, .int 0, .int 0, .int 0, .null, .int 0, .int 0, .null, .int 0, .int 0, .null, .null, .int 0, .int 0, .null, .int 0, .int 0, .int 0, .null, .null, .null, .int 0, .int 0, .int 0, .int 0, .null, .null, .null, .int 0, .int 0, .null, .null, .null, .null, .null, .int 0, .int 0, .int 0, .long 0])), (q1, .inl (g.2.1.1, 700, .inl (fun _ => 0))), (q2, .inl (g.2.1.1, 41, .inl (wch wordsF 1)))] ++ wX11 g a) C 2 rfl ⟨by decide, by decide⟩ (Nat.le_of_ble_eq_true rfl) rfl dX12_init_22 ?_
    refine ac_dup (pc := 23) C dX12_init_23 rfl ?_
    refine ac_iconst (pc := 24) C dX12_init_24 ?_
    refine ac_bipush (pc := 25) C dX12_init_25 (by decide) ?_
    refine ac_iast (pc := 27) (f := wch wordsF 1) (ws' := [(h0, .inr (12, [.ref q1, .int 0, .int 0, .null, .int 0, .int 0, .int 0, .int 0, .int 0, .int 0, .int 0, .int 0, .int 0, .null, .int 0, .int 0, .null, .int 0, .int 0, .null, .null, .int 0, .int 0, .null, .int 0, .int 0, .int 0, .null, .null, .null, .int 0, .int 0, .int 0, .int 0, .null, .null, .null, .int 0, .int 0, .null, .null, .null, .null, .null, .int 0, .int 0, .int 0, .long 0])), (q1, .inl (g.2.1.1, 700, .inl (fun _ => 0))), (q2, .inl (g.2.1.1, 41, .inl (wch wordsF 2)))] ++ wX11 g a) C 2 rfl ⟨by decide, by decide⟩ (Nat.le_of_ble_eq_true rfl) rfl dX12_init_27 ?_
    refine ac_dup (pc := 28) C dX12_init_28 rfl ?_
    refine ac_iconst (pc := 29) C dX12_init_29 ?_
    refine ac_bipush (pc := 30) C dX12_init_30 (by decide) ?_
    refine ac_iast (pc := 32) (f := wch wordsF 2) (ws' := [(h0, .inr (12, [.ref q1, .int 0, .int 0, .null, .int 0, .int 0, .int 0, .int 0, .int 0, .int 0, .int 0, .int 0, .int 0, .null, .int 0, .int 0, .null, .int 0, .int 0, .null, .null, .int 0, .int 0, .null, .int 0, .int 0, .int 0, .null, .null, .null, .int 0, .int 0, .int 0, .int 0, .null, .null, .null, .int 0, .int 0, .null, .null, .null, .null, .null, .int 0, .int 0, .int 0, .long 0])), (q1, .inl (g.2.1.1, 700, .inl (fun _ => 0))), (q2, .inl (g.2.1.1, 41, .inl (wch wordsF 3)))] ++ wX11 g a) C 2 rfl ⟨by decide, by decide⟩ (Nat.le_of_ble_eq_true rfl) rfl dX12_init_32 ?_
    refine ac_dup (pc := 33) C dX12_init_33 rfl ?_
    refine ac_iconst (pc := 34) C dX12_init_34 ?_
    refine ac_bipush (pc := 35) C dX12_init_35 (by decide) ?_
    refine ac_iast (pc := 37) (f := wch wordsF 3) (ws' := [(h0, .inr (12, [.ref q1, .int 0, .int 0, .null, .int 0, .int 0, .int 0, .int 0, .int 0, .int 0, .int 0, .int 0, .int 0, .null, .int 0, .int 0, .null, .int 0, .int 0, .null, .null, .int 0, .int 0, .null, .int 0, .int 0, .int 0, .null, .null, .null, .int 0, .int 0, .int 0, .int 0, .null, .null, .null, .int 0, .int 0, .null, .null, .null, .null, .null, .int 0, .int 0, .int 0, .long 0])), (q1, .inl (g.2.1.1, 700, .inl (fun _ => 0))), (q2, .inl (g.2.1.1, 41, .inl (wch wordsF 4)))] ++ wX11 g a) C 2 rfl ⟨by decide, by decide⟩ (Nat.le_of_ble_eq_true rfl) rfl dX12_init_37 ?_
    refine ac_dup (pc := 38) C dX12_init_38 rfl ?_
    refine ac_iconst (pc := 39) C dX12_init_39 ?_
    refine ac_bipush (pc := 40) C dX12_init_40 (by decide) ?_
    refine ac_iast (pc := 42) (f := wch wordsF 4) (ws' := [(h0, .inr (12, [.ref q1, .int 0, .int 0, .null, .int 0, .int 0, .int 0, .int 0, .int 0, .int 0, .int 0, .int 0, .int 0, .null, .int 0, .int 0, .null, .int 0, .int 0, .null, .null, .int 0, .int 0, .null, .int 0, .int 0, .int 0, .null, .null, .null, .int 0, .int 0, .int 0, .int 0, .null, .null, .null, .int 0, .int 0, .null, .null, .null, .null, .null, .int 0, .int 0, .int 0, .long 0])), (q1, .inl (g.2.1.1, 700, .inl (fun _ => 0))), (q2, .inl (g.2.1.1, 41, .inl (wch wordsF 5)))] ++ wX11 g a) C 2 rfl ⟨by decide, by decide⟩ (Nat.le_of_ble_eq_true rfl) rfl dX12_init_42 ?_
    refine ac_dup (pc := 43) C dX12_init_43 rfl ?_
    refine ac_iconst (pc := 44) C dX12_init_44 ?_
    refine ac_bipush (pc := 45) C dX12_init_45 (by decide) ?_
    refine ac_iast (pc := 47) (f := wch wordsF 5) (ws' := [(h0, .inr (12, [.ref q1, .int 0, .int 0, .null, .int 0, .int 0, .int 0, .int 0, .int 0, .int 0, .int 0, .int 0, .int 0, .null, .int 0, .int 0, .null, .int 0, .int 0, .null, .null, .int 0, .int 0, .null, .int 0, .int 0, .int 0, .null, .null, .null, .int 0, .int 0, .int 0, .int 0, .null, .null, .null, .int 0, .int 0, .null, .null, .null, .null, .null, .int 0, .int 0, .int 0, .long 0])), (q1, .inl (g.2.1.1, 700, .inl (fun _ => 0))), (q2, .inl (g.2.1.1, 41, .inl (wch wordsF 6)))] ++ wX11 g a) C 2 rfl ⟨by decide, by decide⟩ (Nat.le_of_ble_eq_true rfl) rfl dX12_init_47 ?_
    refine ac_dup (pc := 48) C dX12_init_48 rfl ?_
    refine ac_bipush (pc := 49) C dX12_init_49 (by decide) ?_
    refine ac_bipush (pc := 51) C dX12_init_51 (by decide) ?_
    refine ac_iast (pc := 53) (f := wch wordsF 6) (ws' := [(h0, .inr (12, [.ref q1, .int 0, .int 0, .null, .int 0, .int 0, .int 0, .int 0, .int 0, .int 0, .int 0, .int 0, .int 0, .null, .int 0, .int 0, .null, .int 0, .int 0, .null, .null, .int 0, .int 0, .null, .int 0, .int 0, .int 0, .null, .null, .null, .int 0, .int 0, .int 0, .int 0, .null, .null, .null, .int 0, .int 0, .null, .null, .null, .null, .null, .int 0, .int 0, .int 0, .long 0])), (q1, .inl (g.2.1.1, 700, .inl (fun _ => 0))), (q2, .inl (g.2.1.1, 41, .inl (wch wordsF 7)))] ++ wX11 g a) C 2 rfl ⟨by decide, by decide⟩ (Nat.le_of_ble_eq_true rfl) rfl dX12_init_53 ?_
    refine ac_dup (pc := 54) C dX12_init_54 rfl ?_
    refine ac_bipush (pc := 55) C dX12_init_55 (by decide) ?_
    refine ac_bipush (pc := 57) C dX12_init_57 (by decide) ?_
    refine ac_iast (pc := 59) (f := wch wordsF 7) (ws' := [(h0, .inr (12, [.ref q1, .int 0, .int 0, .null, .int 0, .int 0, .int 0, .int 0, .int 0, .int 0, .int 0, .int 0, .int 0, .null, .int 0, .int 0, .null, .int 0, .int 0, .null, .null, .int 0, .int 0, .null, .int 0, .int 0, .int 0, .null, .null, .null, .int 0, .int 0, .int 0, .int 0, .null, .null, .null, .int 0, .int 0, .null, .null, .null, .null, .null, .int 0, .int 0, .int 0, .long 0])), (q1, .inl (g.2.1.1, 700, .inl (fun _ => 0))), (q2, .inl (g.2.1.1, 41, .inl (wch wordsF 8)))] ++ wX11 g a) C 2 rfl ⟨by decide, by decide⟩ (Nat.le_of_ble_eq_true rfl) rfl dX12_init_59 ?_
    refine ac_dup (pc := 60) C dX12_init_60 rfl ?_
    refine ac_bipush (pc := 61) C dX12_init_61 (by decide) ?_
    refine ac_bipush (pc := 63) C dX12_init_63 (by decide) ?_
    refine ac_iast (pc := 65) (f := wch wordsF 8) (ws' := [(h0, .inr (12, [.ref q1, .int 0, .int 0, .null, .int 0, .int 0, .int 0, .int 0, .int 0, .int 0, .int 0, .int 0, .int 0, .null, .int 0, .int 0, .null, .int 0, .int 0, .null, .null, .int 0, .int 0, .null, .int 0, .int 0, .int 0, .null, .null, .null, .int 0, .int 0, .int 0, .int 0, .null, .null, .null, .int 0, .int 0, .null, .null, .null, .null, .null, .int 0, .int 0, .int 0, .long 0])), (q1, .inl (g.2.1.1, 700, .inl (fun _ => 0))), (q2, .inl (g.2.1.1, 41, .inl (wch wordsF 9)))] ++ wX11 g a) C 2 rfl ⟨by decide, by decide⟩ (Nat.le_of_ble_eq_true rfl) rfl dX12_init_65 ?_
    refine ac_dup (pc := 66) C dX12_init_66 rfl ?_
    refine ac_bipush (pc := 67) C dX12_init_67 (by decide) ?_
    refine ac_bipush (pc := 69) C dX12_init_69 (by decide) ?_
    refine ac_iast (pc := 71) (f := wch wordsF 9) (ws' := [(h0, .inr (12, [.ref q1, .int 0, .int 0, .null, .int 0, .int 0, .int 0, .int 0, .int 0, .int 0, .int 0, .int 0, .int 0, .null, .int 0, .int 0, .null, .int 0, .int 0, .null, .null, .int 0, .int 0, .null, .int 0, .int 0, .int 0, .null, .null, .null, .int 0, .int 0, .int 0, .int 0, .null, .null, .null, .int 0, .int 0, .null, .null, .null, .null, .null, .int 0, .int 0, .int 0, .long 0])), (q1, .inl (g.2.1.1, 700, .inl (fun _ => 0))), (q2, .inl (g.2.1.1, 41, .inl (wch wordsF 10)))] ++ wX11 g a) C 2 rfl ⟨by decide, by decide⟩ (Nat.le_of_ble_eq_true rfl) rfl dX12_init_71 ?_
    refine ac_dup (pc := 72) C dX12_init_72 rfl ?_
    refine ac_bipush (pc := 73) C dX12_init_73 (by decide) ?_
    refine ac_bipush (pc := 75) C dX12_init_75 (by decide) ?_
    refine ac_iast (pc := 77) (f := wch wordsF 10) (ws' := [(h0, .inr (12, [.ref q1, .int 0, .int 0, .null, .int 0, .int 0, .int 0, .int 0, .int 0, .int 0, .int 0, .int 0, .int 0, .null, .int 0, .int 0, .null, .int 0, .int 0, .null, .null, .int 0, .int 0, .null, .int 0, .int 0, .int 0, .null, .null, .null, .int 0, .int 0, .int 0, .int 0, .null, .null, .null, .int 0, .int 0, .null, .null, .null, .null, .null, .int 0, .int 0, .int 0, .long 0])), (q1, .inl (g.2.1.1, 700, .inl (fun _ => 0))), (q2, .inl (g.2.1.1, 41, .inl (wch wordsF 11)))] ++ wX11 g a) C 2 rfl ⟨by decide, by decide⟩ (Nat.le_of_ble_eq_true rfl) rfl dX12_init_77 ?_
    refine ac_dup (pc := 78) C dX12_init_78 rfl ?_
    refine ac_bipush (pc := 79) C dX12_init_79 (by decide) ?_
    refine ac_bipush (pc := 81) C dX12_init_81 (by decide) ?_
    refine ac_iast (pc := 83) (f := wch wordsF 11) (ws' := [(h0, .inr (12, [.ref q1, .int 0, .int 0, .null, .int 0, .int 0, .int 0, .int 0, .int 0, .int 0, .int 0, .int 0, .int 0, .null, .int 0, .int 0, .null, .int 0, .int 0, .null, .null, .int 0, .int 0, .null, .int 0, .int 0, .int 0, .null, .null, .null, .int 0, .int 0, .int 0, .int 0, .null, .null, .null, .int 0, .int 0, .null, .null, .null, .null, .null, .int 0, .int 0, .int 0, .long 0])), (q1, .inl (g.2.1.1, 700, .inl (fun _ => 0))), (q2, .inl (g.2.1.1, 41, .inl (wch wordsF 12)))] ++ wX11 g a) C 2 rfl ⟨by decide, by decide⟩ (Nat.le_of_ble_eq_true rfl) rfl dX12_init_83 ?_
    refine ac_dup (pc := 84) C dX12_init_84 rfl ?_
    refine ac_bipush (pc := 85) C dX12_init_85 (by decide) ?_
    refine ac_bipush (pc := 87) C dX12_init_87 (by decide) ?_
    refine ac_iast (pc := 89) (f := wch wordsF 12) (ws' := [(h0, .inr (12, [.ref q1, .int 0, .int 0, .null, .int 0, .int 0, .int 0, .int 0, .int 0, .int 0, .int 0, .int 0, .int 0, .null, .int 0, .int 0, .null, .int 0, .int 0, .null, .null, .int 0, .int 0, .null, .int 0, .int 0, .int 0, .null, .null, .null, .int 0, .int 0, .int 0, .int 0, .null, .null, .null, .int 0, .int 0, .null, .null, .null, .null, .null, .int 0, .int 0, .int 0, .long 0])), (q1, .inl (g.2.1.1, 700, .inl (fun _ => 0))), (q2, .inl (g.2.1.1, 41, .inl (wch wordsF 13)))] ++ wX11 g a) C 2 rfl ⟨by decide, by decide⟩ (Nat.le_of_ble_eq_true rfl) rfl dX12_init_89 ?_
    refine ac_dup (pc := 90) C dX12_init_90 rfl ?_
    refine ac_bipush (pc := 91) C dX12_init_91 (by decide) ?_
    refine ac_bipush (pc := 93) C dX12_init_93 (by decide) ?_
    refine ac_iast (pc := 95) (f := wch wordsF 13) (ws' := [(h0, .inr (12, [.ref q1, .int 0, .int 0, .null, .int 0, .int 0, .int 0, .int 0, .int 0, .int 0, .int 0, .int 0, .int 0, .null, .int 0, .int 0, .null, .int 0, .int 0, .null, .null, .int 0, .int 0, .null, .int 0, .int 0, .int 0, .null, .null, .null, .int 0, .int 0, .int 0, .int 0, .null, .null, .null, .int 0, .int 0, .null, .null, .null, .null, .null, .int 0, .int 0, .int 0, .long 0])), (q1, .inl (g.2.1.1, 700, .inl (fun _ => 0))), (q2, .inl (g.2.1.1, 41, .inl (wch wordsF 14)))] ++ wX11 g a) C 2 rfl ⟨by decide, by decide⟩ (Nat.le_of_ble_eq_true rfl) rfl dX12_init_95 ?_
    refine ac_dup (pc := 96) C dX12_init_96 rfl ?_
    refine ac_bipush (pc := 97) C dX12_init_97 (by decide) ?_
    refine ac_bipush (pc := 99) C dX12_init_99 (by decide) ?_
    refine ac_iast (pc := 101) (f := wch wordsF 14) (ws' := [(h0, .inr (12, [.ref q1, .int 0, .int 0, .null, .int 0, .int 0, .int 0, .int 0, .int 0, .int 0, .int 0, .int 0, .int 0, .null, .int 0, .int 0, .null, .int 0, .int 0, .null, .null, .int 0, .int 0, .null, .int 0, .int 0, .int 0, .null, .null, .null, .int 0, .int 0, .int 0, .int 0, .null, .null, .null, .int 0, .int 0, .null, .null, .null, .null, .null, .int 0, .int 0, .int 0, .long 0])), (q1, .inl (g.2.1.1, 700, .inl (fun _ => 0))), (q2, .inl (g.2.1.1, 41, .inl (wch wordsF 15)))] ++ wX11 g a) C 2 rfl ⟨by decide, by decide⟩ (Nat.le_of_ble_eq_true rfl) rfl dX12_init_101 ?_
    refine ac_dup (pc := 102) C dX12_init_102 rfl ?_
    refine ac_bipush (pc := 103) C dX12_init_103 (by decide) ?_
    refine ac_bipush (pc := 105) C dX12_init_105 (by decide) ?_
    refine ac_iast (pc := 107) (f := wch wordsF 15) (ws' := [(h0, .inr (12, [.ref q1, .int 0, .int 0, .null, .int 0, .int 0, .int 0, .int 0, .int 0, .int 0, .int 0, .int 0, .int 0, .null, .int 0, .int 0, .null, .int 0, .int 0, .null, .null, .int 0, .int 0, .null, .int 0, .int 0, .int 0, .null, .null, .null, .int 0, .int 0, .int 0, .int 0, .null, .null, .null, .int 0, .int 0, .null, .null, .null, .null, .null, .int 0, .int 0, .int 0, .long 0])), (q1, .inl (g.2.1.1, 700, .inl (fun _ => 0))), (q2, .inl (g.2.1.1, 41, .inl (wch wordsF 16)))] ++ wX11 g a) C 2 rfl ⟨by decide, by decide⟩ (Nat.le_of_ble_eq_true rfl) rfl dX12_init_107 ?_
    refine ac_dup (pc := 108) C dX12_init_108 rfl ?_
    refine ac_bipush (pc := 109) C dX12_init_109 (by decide) ?_
    refine ac_bipush (pc := 111) C dX12_init_111 (by decide) ?_
    refine ac_iast (pc := 113) (f := wch wordsF 16) (ws' := [(h0, .inr (12, [.ref q1, .int 0, .int 0, .null, .int 0, .int 0, .int 0, .int 0, .int 0, .int 0, .int 0, .int 0, .int 0, .null, .int 0, .int 0, .null, .int 0, .int 0, .null, .null, .int 0, .int 0, .null, .int 0, .int 0, .int 0, .null, .null, .null, .int 0, .int 0, .int 0, .int 0, .null, .null, .null, .int 0, .int 0, .null, .null, .null, .null, .null, .int 0, .int 0, .int 0, .long 0])), (q1, .inl (g.2.1.1, 700, .inl (fun _ => 0))), (q2, .inl (g.2.1.1, 41, .inl (wch wordsF 17)))] ++ wX11 g a) C 2 rfl ⟨by decide, by decide⟩ (Nat.le_of_ble_eq_true rfl) rfl dX12_init_113 ?_
    refine ac_dup (pc := 114) C dX12_init_114 rfl ?_
    refine ac_bipush (pc := 115) C dX12_init_115 (by decide) ?_
    refine ac_bipush (pc := 117) C dX12_init_117 (by decide) ?_
    refine ac_iast (pc := 119) (f := wch wordsF 17) (ws' := [(h0, .inr (12, [.ref q1, .int 0, .int 0, .null, .int 0, .int 0, .int 0, .int 0, .int 0, .int 0, .int 0, .int 0, .int 0, .null, .int 0, .int 0, .null, .int 0, .int 0, .null, .null, .int 0, .int 0, .null, .int 0, .int 0, .int 0, .null, .null, .null, .int 0, .int 0, .int 0, .int 0, .null, .null, .null, .int 0, .int 0, .null, .null, .null, .null, .null, .int 0, .int 0, .int 0, .long 0])), (q1, .inl (g.2.1.1, 700, .inl (fun _ => 0))), (q2, .inl (g.2.1.1, 41, .inl (wch wordsF 18)))] ++ wX11 g a) C 2 rfl ⟨by decide, by decide⟩ (Nat.le_of_ble_eq_true rfl) rfl dX12_init_119 ?_
    refine ac_dup (pc := 120) C dX12_init_120 rfl ?_
    refine ac_bipush (pc := 121) C dX12_init_121 (by decide) ?_
    refine ac_bipush (pc := 123) C dX12_init_123 (by decide) ?_
    refine ac_iast (pc := 125) (f := wch wordsF 18) (ws' := [(h0, .inr (12, [.ref q1, .int 0, .int 0, .null, .int 0, .int 0, .int 0, .int 0, .int 0, .int 0, .int 0, .int 0, .int 0, .null, .int 0, .int 0, .null, .int 0, .int 0, .null, .null, .int 0, .int 0, .null, .int 0, .int 0, .int 0, .null, .null, .null, .int 0, .int 0, .int 0, .int 0, .null, .null, .null, .int 0, .int 0, .null, .null, .null, .null, .null, .int 0, .int 0, .int 0, .long 0])), (q1, .inl (g.2.1.1, 700, .inl (fun _ => 0))), (q2, .inl (g.2.1.1, 41, .inl (wch wordsF 19)))] ++ wX11 g a) C 2 rfl ⟨by decide, by decide⟩ (Nat.le_of_ble_eq_true rfl) rfl dX12_init_125 ?_
    refine ac_dup (pc := 126) C dX12_init_126 rfl ?_
    refine ac_bipush (pc := 127) C dX12_init_127 (by decide) ?_
    refine ac_bipush (pc := 129) C dX12_init_129 (by decide) ?_
    refine ac_iast (pc := 131) (f := wch wordsF 19) (ws' := [(h0, .inr (12, [.ref q1, .int 0, .int 0, .null, .int 0, .int 0, .int 0, .int 0, .int 0, .int 0, .int 0, .int 0, .int 0, .null, .int 0, .int 0, .null, .int 0, .int 0, .null, .null, .int 0, .int 0, .null, .int 0, .int 0, .int 0, .null, .null, .null, .int 0, .int 0, .int 0, .int 0, .null, .null, .null, .int 0, .int 0, .null, .null, .null, .null, .null, .int 0, .int 0, .int 0, .long 0])), (q1, .inl (g.2.1.1, 700, .inl (fun _ => 0))), (q2, .inl (g.2.1.1, 41, .inl (wch wordsF 20)))] ++ wX11 g a) C 2 rfl ⟨by decide, by decide⟩ (Nat.le_of_ble_eq_true rfl) rfl dX12_init_131 ?_
    refine ac_dup (pc := 132) C dX12_init_132 rfl ?_
    refine ac_bipush (pc := 133) C dX12_init_133 (by decide) ?_
    refine ac_bipush (pc := 135) C dX12_init_135 (by decide) ?_
    refine ac_iast (pc := 137) (f := wch wordsF 20) (ws' := [(h0, .inr (12, [.ref q1, .int 0, .int 0, .null, .int 0, .int 0, .int 0, .int 0, .int 0, .int 0, .int 0, .int 0, .int 0, .null, .int 0, .int 0, .null, .int 0, .int 0, .null, .null, .int 0, .int 0, .null, .int 0, .int 0, .int 0, .null, .null, .null, .int 0, .int 0, .int 0, .int 0, .null, .null, .null, .int 0, .int 0, .null, .null, .null, .null, .null, .int 0, .int 0, .int 0, .long 0])), (q1, .inl (g.2.1.1, 700, .inl (fun _ => 0))), (q2, .inl (g.2.1.1, 41, .inl (wch wordsF 21)))] ++ wX11 g a) C 2 rfl ⟨by decide, by decide⟩ (Nat.le_of_ble_eq_true rfl) rfl dX12_init_137 ?_
    refine ac_dup (pc := 138) C dX12_init_138 rfl ?_
    refine ac_bipush (pc := 139) C dX12_init_139 (by decide) ?_
    refine ac_bipush (pc := 141) C dX12_init_141 (by decide) ?_
    refine ac_iast (pc := 143) (f := wch wordsF 21) (ws' := [(h0, .inr (12, [.ref q1, .int 0, .int 0, .null, .int 0, .int 0, .int 0, .int 0, .int 0, .int 0, .int 0, .int 0, .int 0, .null, .int 0, .int 0, .null, .int 0, .int 0, .null, .null, .int 0, .int 0, .null, .int 0, .int 0, .int 0, .null, .null, .null, .int 0, .int 0, .int 0, .int 0, .null, .null, .null, .int 0, .int 0, .null, .null, .null, .null, .null, .int 0, .int 0, .int 0, .long 0])), (q1, .inl (g.2.1.1, 700, .inl (fun _ => 0))), (q2, .inl (g.2.1.1, 41, .inl (wch wordsF 22)))] ++ wX11 g a) C 2 rfl ⟨by decide, by decide⟩ (Nat.le_of_ble_eq_true rfl) rfl dX12_init_143 ?_
    refine ac_dup (pc := 144) C dX12_init_144 rfl ?_
    refine ac_bipush (pc := 145) C dX12_init_145 (by decide) ?_
    refine ac_bipush (pc := 147) C dX12_init_147 (by decide) ?_
    refine ac_iast (pc := 149) (f := wch wordsF 22) (ws' := [(h0, .inr (12, [.ref q1, .int 0, .int 0, .null, .int 0, .int 0, .int 0, .int 0, .int 0, .int 0, .int 0, .int 0, .int 0, .null, .int 0, .int 0, .null, .int 0, .int 0, .null, .null, .int 0, .int 0, .null, .int 0, .int 0, .int 0, .null, .null, .null, .int 0, .int 0, .int 0, .int 0, .null, .null, .null, .int 0, .int 0, .null, .null, .null, .null, .null, .int 0, .int 0, .int 0, .long 0])), (q1, .inl (g.2.1.1, 700, .inl (fun _ => 0))), (q2, .inl (g.2.1.1, 41, .inl (wch wordsF 23)))] ++ wX11 g a) C 2 rfl ⟨by decide, by decide⟩ (Nat.le_of_ble_eq_true rfl) rfl dX12_init_149 ?_
    refine ac_dup (pc := 150) C dX12_init_150 rfl ?_
    refine ac_bipush (pc := 151) C dX12_init_151 (by decide) ?_
    refine ac_bipush (pc := 153) C dX12_init_153 (by decide) ?_
    refine ac_iast (pc := 155) (f := wch wordsF 23) (ws' := [(h0, .inr (12, [.ref q1, .int 0, .int 0, .null, .int 0, .int 0, .int 0, .int 0, .int 0, .int 0, .int 0, .int 0, .int 0, .null, .int 0, .int 0, .null, .int 0, .int 0, .null, .null, .int 0, .int 0, .null, .int 0, .int 0, .int 0, .null, .null, .null, .int 0, .int 0, .int 0, .int 0, .null, .null, .null, .int 0, .int 0, .null, .null, .null, .null, .null, .int 0, .int 0, .int 0, .long 0])), (q1, .inl (g.2.1.1, 700, .inl (fun _ => 0))), (q2, .inl (g.2.1.1, 41, .inl (wch wordsF 24)))] ++ wX11 g a) C 2 rfl ⟨by decide, by decide⟩ (Nat.le_of_ble_eq_true rfl) rfl dX12_init_155 ?_
    refine ac_dup (pc := 156) C dX12_init_156 rfl ?_
    refine ac_bipush (pc := 157) C dX12_init_157 (by decide) ?_
    refine ac_bipush (pc := 159) C dX12_init_159 (by decide) ?_
    refine ac_iast (pc := 161) (f := wch wordsF 24) (ws' := [(h0, .inr (12, [.ref q1, .int 0, .int 0, .null, .int 0, .int 0, .int 0, .int 0, .int 0, .int 0, .int 0, .int 0, .int 0, .null, .int 0, .int 0, .null, .int 0, .int 0, .null, .null, .int 0, .int 0, .null, .int 0, .int 0, .int 0, .null, .null, .null, .int 0, .int 0, .int 0, .int 0, .null, .null, .null, .int 0, .int 0, .null, .null, .null, .null, .null, .int 0, .int 0, .int 0, .long 0])), (q1, .inl (g.2.1.1, 700, .inl (fun _ => 0))), (q2, .inl (g.2.1.1, 41, .inl (wch wordsF 25)))] ++ wX11 g a) C 2 rfl ⟨by decide, by decide⟩ (Nat.le_of_ble_eq_true rfl) rfl dX12_init_161 ?_
    refine ac_dup (pc := 162) C dX12_init_162 rfl ?_
    refine ac_bipush (pc := 163) C dX12_init_163 (by decide) ?_
    refine ac_bipush (pc := 165) C dX12_init_165 (by decide) ?_
    refine ac_iast (pc := 167) (f := wch wordsF 25) (ws' := [(h0, .inr (12, [.ref q1, .int 0, .int 0, .null, .int 0, .int 0, .int 0, .int 0, .int 0, .int 0, .int 0, .int 0, .int 0, .null, .int 0, .int 0, .null, .int 0, .int 0, .null, .null, .int 0, .int 0, .null, .int 0, .int 0, .int 0, .null, .null, .null, .int 0, .int 0, .int 0, .int 0, .null, .null, .null, .int 0, .int 0, .null, .null, .null, .null, .null, .int 0, .int 0, .int 0, .long 0])), (q1, .inl (g.2.1.1, 700, .inl (fun _ => 0))), (q2, .inl (g.2.1.1, 41, .inl (wch wordsF 26)))] ++ wX11 g a) C 2 rfl ⟨by decide, by decide⟩ (Nat.le_of_ble_eq_true rfl) rfl dX12_init_167 ?_
    refine ac_dup (pc := 168) C dX12_init_168 rfl ?_
    refine ac_bipush (pc := 169) C dX12_init_169 (by decide) ?_
    refine ac_bipush (pc := 171) C dX12_init_171 (by decide) ?_
    refine ac_iast (pc := 173) (f := wch wordsF 26) (ws' := [(h0, .inr (12, [.ref q1, .int 0, .int 0, .null, .int 0, .int 0, .int 0, .int 0, .int 0, .int 0, .int 0, .int 0, .int 0, .null, .int 0, .int 0, .null, .int 0, .int 0, .null, .null, .int 0, .int 0, .null, .int 0, .int 0, .int 0, .null, .null, .null, .int 0, .int 0, .int 0, .int 0, .null, .null, .null, .int 0, .int 0, .null, .null, .null, .null, .null, .int 0, .int 0, .int 0, .long 0])), (q1, .inl (g.2.1.1, 700, .inl (fun _ => 0))), (q2, .inl (g.2.1.1, 41, .inl (wch wordsF 27)))] ++ wX11 g a) C 2 rfl ⟨by decide, by decide⟩ (Nat.le_of_ble_eq_true rfl) rfl dX12_init_173 ?_
    refine ac_dup (pc := 174) C dX12_init_174 rfl ?_
    refine ac_bipush (pc := 175) C dX12_init_175 (by decide) ?_
    refine ac_bipush (pc := 177) C dX12_init_177 (by decide) ?_
    refine ac_iast (pc := 179) (f := wch wordsF 27) (ws' := [(h0, .inr (12, [.ref q1, .int 0, .int 0, .null, .int 0, .int 0, .int 0, .int 0, .int 0, .int 0, .int 0, .int 0, .int 0, .null, .int 0, .int 0, .null, .int 0, .int 0, .null, .null, .int 0, .int 0, .null, .int 0, .int 0, .int 0, .null, .null, .null, .int 0, .int 0, .int 0, .int 0, .null, .null, .null, .int 0, .int 0, .null, .null, .null, .null, .null, .int 0, .int 0, .int 0, .long 0])), (q1, .inl (g.2.1.1, 700, .inl (fun _ => 0))), (q2, .inl (g.2.1.1, 41, .inl (wch wordsF 28)))] ++ wX11 g a) C 2 rfl ⟨by decide, by decide⟩ (Nat.le_of_ble_eq_true rfl) rfl dX12_init_179 ?_
    refine ac_dup (pc := 180) C dX12_init_180 rfl ?_
    refine ac_bipush (pc := 181) C dX12_init_181 (by decide) ?_
    refine ac_bipush (pc := 183) C dX12_init_183 (by decide) ?_
    refine ac_iast (pc := 185) (f := wch wordsF 28) (ws' := [(h0, .inr (12, [.ref q1, .int 0, .int 0, .null, .int 0, .int 0, .int 0, .int 0, .int 0, .int 0, .int 0, .int 0, .int 0, .null, .int 0, .int 0, .null, .int 0, .int 0, .null, .null, .int 0, .int 0, .null, .int 0, .int 0, .int 0, .null, .null, .null, .int 0, .int 0, .int 0, .int 0, .null, .null, .null, .int 0, .int 0, .null, .null, .null, .null, .null, .int 0, .int 0, .int 0, .long 0])), (q1, .inl (g.2.1.1, 700, .inl (fun _ => 0))), (q2, .inl (g.2.1.1, 41, .inl (wch wordsF 29)))] ++ wX11 g a) C 2 rfl ⟨by decide, by decide⟩ (Nat.le_of_ble_eq_true rfl) rfl dX12_init_185 ?_
    refine ac_dup (pc := 186) C dX12_init_186 rfl ?_
    refine ac_bipush (pc := 187) C dX12_init_187 (by decide) ?_
    refine ac_bipush (pc := 189) C dX12_init_189 (by decide) ?_
    refine ac_iast (pc := 191) (f := wch wordsF 29) (ws' := [(h0, .inr (12, [.ref q1, .int 0, .int 0, .null, .int 0, .int 0, .int 0, .int 0, .int 0, .int 0, .int 0, .int 0, .int 0, .null, .int 0, .int 0, .null, .int 0, .int 0, .null, .null, .int 0, .int 0, .null, .int 0, .int 0, .int 0, .null, .null, .null, .int 0, .int 0, .int 0, .int 0, .null, .null, .null, .int 0, .int 0, .null, .null, .null, .null, .null, .int 0, .int 0, .int 0, .long 0])), (q1, .inl (g.2.1.1, 700, .inl (fun _ => 0))), (q2, .inl (g.2.1.1, 41, .inl (wch wordsF 30)))] ++ wX11 g a) C 2 rfl ⟨by decide, by decide⟩ (Nat.le_of_ble_eq_true rfl) rfl dX12_init_191 ?_
    refine ac_dup (pc := 192) C dX12_init_192 rfl ?_
    refine ac_bipush (pc := 193) C dX12_init_193 (by decide) ?_
    refine ac_bipush (pc := 195) C dX12_init_195 (by decide) ?_
    refine ac_iast (pc := 197) (f := wch wordsF 30) (ws' := [(h0, .inr (12, [.ref q1, .int 0, .int 0, .null, .int 0, .int 0, .int 0, .int 0, .int 0, .int 0, .int 0, .int 0, .int 0, .null, .int 0, .int 0, .null, .int 0, .int 0, .null, .null, .int 0, .int 0, .null, .int 0, .int 0, .int 0, .null, .null, .null, .int 0, .int 0, .int 0, .int 0, .null, .null, .null, .int 0, .int 0, .null, .null, .null, .null, .null, .int 0, .int 0, .int 0, .long 0])), (q1, .inl (g.2.1.1, 700, .inl (fun _ => 0))), (q2, .inl (g.2.1.1, 41, .inl (wch wordsF 31)))] ++ wX11 g a) C 2 rfl ⟨by decide, by decide⟩ (Nat.le_of_ble_eq_true rfl) rfl dX12_init_197 ?_
    refine ac_dup (pc := 198) C dX12_init_198 rfl ?_
    refine ac_bipush (pc := 199) C dX12_init_199 (by decide) ?_
    refine ac_bipush (pc := 201) C dX12_init_201 (by decide) ?_
    refine ac_iast (pc := 203) (f := wch wordsF 31) (ws' := [(h0, .inr (12, [.ref q1, .int 0, .int 0, .null, .int 0, .int 0, .int 0, .int 0, .int 0, .int 0, .int 0, .int 0, .int 0, .null, .int 0, .int 0, .null, .int 0, .int 0, .null, .null, .int 0, .int 0, .null, .int 0, .int 0, .int 0, .null, .null, .null, .int 0, .int 0, .int 0, .int 0, .null, .null, .null, .int 0, .int 0, .null, .null, .null, .null, .null, .int 0, .int 0, .int 0, .long 0])), (q1, .inl (g.2.1.1, 700, .inl (fun _ => 0))), (q2, .inl (g.2.1.1, 41, .inl (wch wordsF 32)))] ++ wX11 g a) C 2 rfl ⟨by decide, by decide⟩ (Nat.le_of_ble_eq_true rfl) rfl dX12_init_203 ?_
    refine ac_dup (pc := 204) C dX12_init_204 rfl ?_
    refine ac_bipush (pc := 205) C dX12_init_205 (by decide) ?_
    refine ac_bipush (pc := 207) C dX12_init_207 (by decide) ?_
    refine ac_iast (pc := 209) (f := wch wordsF 32) (ws' := [(h0, .inr (12, [.ref q1, .int 0, .int 0, .null, .int 0, .int 0, .int 0, .int 0, .int 0, .int 0, .int 0, .int 0, .int 0, .null, .int 0, .int 0, .null, .int 0, .int 0, .null, .null, .int 0, .int 0, .null, .int 0, .int 0, .int 0, .null, .null, .null, .int 0, .int 0, .int 0, .int 0, .null, .null, .null, .int 0, .int 0, .null, .null, .null, .null, .null, .int 0, .int 0, .int 0, .long 0])), (q1, .inl (g.2.1.1, 700, .inl (fun _ => 0))), (q2, .inl (g.2.1.1, 41, .inl (wch wordsF 33)))] ++ wX11 g a) C 2 rfl ⟨by decide, by decide⟩ (Nat.le_of_ble_eq_true rfl) rfl dX12_init_209 ?_
    refine ac_dup (pc := 210) C dX12_init_210 rfl ?_
    refine ac_bipush (pc := 211) C dX12_init_211 (by decide) ?_
    refine ac_bipush (pc := 213) C dX12_init_213 (by decide) ?_
    refine ac_iast (pc := 215) (f := wch wordsF 33) (ws' := [(h0, .inr (12, [.ref q1, .int 0, .int 0, .null, .int 0, .int 0, .int 0, .int 0, .int 0, .int 0, .int 0, .int 0, .int 0, .null, .int 0, .int 0, .null, .int 0, .int 0, .null, .null, .int 0, .int 0, .null, .int 0, .int 0, .int 0, .null, .null, .null, .int 0, .int 0, .int 0, .int 0, .null, .null, .null, .int 0, .int 0, .null, .null, .null, .null, .null, .int 0, .int 0, .int 0, .long 0])), (q1, .inl (g.2.1.1, 700, .inl (fun _ => 0))), (q2, .inl (g.2.1.1, 41, .inl (wch wordsF 34)))] ++ wX11 g a) C 2 rfl ⟨by decide, by decide⟩ (Nat.le_of_ble_eq_true rfl) rfl dX12_init_215 ?_
    refine ac_dup (pc := 216) C dX12_init_216 rfl ?_
    refine ac_bipush (pc := 217) C dX12_init_217 (by decide) ?_
    refine ac_bipush (pc := 219) C dX12_init_219 (by decide) ?_
    refine ac_iast (pc := 221) (f := wch wordsF 34) (ws' := [(h0, .inr (12, [.ref q1, .int 0, .int 0, .null, .int 0, .int 0, .int 0, .int 0, .int 0, .int 0, .int 0, .int 0, .int 0, .null, .int 0, .int 0, .null, .int 0, .int 0, .null, .null, .int 0, .int 0, .null, .int 0, .int 0, .int 0, .null, .null, .null, .int 0, .int 0, .int 0, .int 0, .null, .null, .null, .int 0, .int 0, .null, .null, .null, .null, .null, .int 0, .int 0, .int 0, .long 0])), (q1, .inl (g.2.1.1, 700, .inl (fun _ => 0))), (q2, .inl (g.2.1.1, 41, .inl (wch wordsF 35)))] ++ wX11 g a) C 2 rfl ⟨by decide, by decide⟩ (Nat.le_of_ble_eq_true rfl) rfl dX12_init_221 ?_
    refine ac_dup (pc := 222) C dX12_init_222 rfl ?_
    refine ac_bipush (pc := 223) C dX12_init_223 (by decide) ?_
    refine ac_bipush (pc := 225) C dX12_init_225 (by decide) ?_
    refine ac_iast (pc := 227) (f := wch wordsF 35) (ws' := [(h0, .inr (12, [.ref q1, .int 0, .int 0, .null, .int 0, .int 0, .int 0, .int 0, .int 0, .int 0, .int 0, .int 0, .int 0, .null, .int 0, .int 0, .null, .int 0, .int 0, .null, .null, .int 0, .int 0, .null, .int 0, .int 0, .int 0, .null, .null, .null, .int 0, .int 0, .int 0, .int 0, .null, .null, .null, .int 0, .int 0, .null, .null, .null, .null, .null, .int 0, .int 0, .int 0, .long 0])), (q1, .inl (g.2.1.1, 700, .inl (fun _ => 0))), (q2, .inl (g.2.1.1, 41, .inl (wch wordsF 36)))] ++ wX11 g a) C 2 rfl ⟨by decide, by decide⟩ (Nat.le_of_ble_eq_true rfl) rfl dX12_init_227 ?_
    refine ac_dup (pc := 228) C dX12_init_228 rfl ?_
    refine ac_bipush (pc := 229) C dX12_init_229 (by decide) ?_
    refine ac_bipush (pc := 231) C dX12_init_231 (by decide) ?_
    refine ac_iast (pc := 233) (f := wch wordsF 36) (ws' := [(h0, .inr (12, [.ref q1, .int 0, .int 0, .null, .int 0, .int 0, .int 0, .int 0, .int 0, .int 0, .int 0, .int 0, .int 0, .null, .int 0, .int 0, .null, .int 0, .int 0, .null, .null, .int 0, .int 0, .null, .int 0, .int 0, .int 0, .null, .null, .null, .int 0, .int 0, .int 0, .int 0, .null, .null, .null, .int 0, .int 0, .null, .null, .null, .null, .null, .int 0, .int 0, .int 0, .long 0])), (q1, .inl (g.2.1.1, 700, .inl (fun _ => 0))), (q2, .inl (g.2.1.1, 41, .inl (wch wordsF 37)))] ++ wX11 g a) C 2 rfl ⟨by decide, by decide⟩ (Nat.le_of_ble_eq_true rfl) rfl dX12_init_233 ?_
    refine ac_dup (pc := 234) C dX12_init_234 rfl ?_
    refine ac_bipush (pc := 235) C dX12_init_235 (by decide) ?_
    refine ac_bipush (pc := 237) C dX12_init_237 (by decide) ?_
    refine ac_iast (pc := 239) (f := wch wordsF 37) (ws' := [(h0, .inr (12, [.ref q1, .int 0, .int 0, .null, .int 0, .int 0, .int 0, .int 0, .int 0, .int 0, .int 0, .int 0, .int 0, .null, .int 0, .int 0, .null, .int 0, .int 0, .null, .null, .int 0, .int 0, .null, .int 0, .int 0, .int 0, .null, .null, .null, .int 0, .int 0, .int 0, .int 0, .null, .null, .null, .int 0, .int 0, .null, .null, .null, .null, .null, .int 0, .int 0, .int 0, .long 0])), (q1, .inl (g.2.1.1, 700, .inl (fun _ => 0))), (q2, .inl (g.2.1.1, 41, .inl (wch wordsF 38)))] ++ wX11 g a) C 2 rfl ⟨by decide, by decide⟩ (Nat.le_of_ble_eq_true rfl) rfl dX12_init_239 ?_
    refine ac_dup (pc := 240) C dX12_init_240 rfl ?_
    refine ac_bipush (pc := 241) C dX12_init_241 (by decide) ?_
    refine ac_bipush (pc := 243) C dX12_init_243 (by decide) ?_
    refine ac_iast (pc := 245) (f := wch wordsF 38) (ws' := [(h0, .inr (12, [.ref q1, .int 0, .int 0, .null, .int 0, .int 0, .int 0, .int 0, .int 0, .int 0, .int 0, .int 0, .int 0, .null, .int 0, .int 0, .null, .int 0, .int 0, .null, .null, .int 0, .int 0, .null, .int 0, .int 0, .int 0, .null, .null, .null, .int 0, .int 0, .int 0, .int 0, .null, .null, .null, .int 0, .int 0, .null, .null, .null, .null, .null, .int 0, .int 0, .int 0, .long 0])), (q1, .inl (g.2.1.1, 700, .inl (fun _ => 0))), (q2, .inl (g.2.1.1, 41, .inl (wch wordsF 39)))] ++ wX11 g a) C 2 rfl ⟨by decide, by decide⟩ (Nat.le_of_ble_eq_true rfl) rfl dX12_init_245 ?_
    refine ac_dup (pc := 246) C dX12_init_246 rfl ?_
    refine ac_bipush (pc := 247) C dX12_init_247 (by decide) ?_
    refine ac_bipush (pc := 249) C dX12_init_249 (by decide) ?_
    refine ac_iast (pc := 251) (f := wch wordsF 39) (ws' := [(h0, .inr (12, [.ref q1, .int 0, .int 0, .null, .int 0, .int 0, .int 0, .int 0, .int 0, .int 0, .int 0, .int 0, .int 0, .null, .int 0, .int 0, .null, .int 0, .int 0, .null, .null, .int 0, .int 0, .null, .int 0, .int 0, .int 0, .null, .null, .null, .int 0, .int 0, .int 0, .int 0, .null, .null, .null, .int 0, .int 0, .null, .null, .null, .null, .null, .int 0, .int 0, .int 0, .long 0])), (q1, .inl (g.2.1.1, 700, .inl (fun _ => 0))), (q2, .inl (g.2.1.1, 41, .inl (wch wordsF 40)))] ++ wX11 g a) C 2 rfl ⟨by decide, by decide⟩ (Nat.le_of_ble_eq_true rfl) rfl dX12_init_251 ?_
    refine ac_dup (pc := 252) C dX12_init_252 rfl ?_
    refine ac_bipush (pc := 253) C dX12_init_253 (by decide) ?_
    refine ac_bipush (pc := 255) C dX12_init_255 (by decide) ?_
    refine ac_iast (pc := 257) (f := wch wordsF 40) (ws' := [(h0, .inr (12, [.ref q1, .int 0, .int 0, .null, .int 0, .int 0, .int 0, .int 0, .int 0, .int 0, .int 0, .int 0, .int 0, .null, .int 0, .int 0, .null, .int 0, .int 0, .null, .null, .int 0, .int 0, .null, .int 0, .int 0, .int 0, .null, .null, .null, .int 0, .int 0, .int 0, .int 0, .null, .null, .null, .int 0, .int 0, .null, .null, .null, .null, .null, .int 0, .int 0, .int 0, .long 0])), (q1, .inl (g.2.1.1, 700, .inl (fun _ => 0))), (q2, .inl (g.2.1.1, 41, .inl (wch wordsF 41)))] ++ wX11 g a) C 2 rfl ⟨by decide, by decide⟩ (Nat.le_of_ble_eq_true rfl) rfl dX12_init_257 ?_
    refine ac_putF (pc := 258) (ws' := [(h0, .inr (12, [.ref q1, .int 0, .int 0, .ref q2, .int 0, .int 0, .int 0, .int 0, .int 0, .int 0, .int 0, .int 0, .int 0, .null, .int 0, .int 0, .null, .int 0, .int 0, .null, .null, .int 0, .int 0, .null, .int 0, .int 0, .int 0, .null, .null, .null, .int 0, .int 0, .int 0, .int 0, .null, .null, .null, .int 0, .int 0, .null, .null, .null, .null, .null, .int 0, .int 0, .int 0, .long 0])), (q1, .inl (g.2.1.1, 700, .inl (fun _ => 0))), (q2, .inl (g.2.1.1, 41, .inl (wch wordsF 41)))] ++ wX11 g a) C 0 fuf_12_13 rfl rfl rfl (Nat.le_of_ble_eq_true rfl) rfl dX12_init_258 ?_
    refine ac_aload_n (pc := 261) C 0 dX12_init_261 rfl rfl ?_
    refine ac_iconst (pc := 262) C dX12_init_262 ?_
    refine ac_put (pc := 263) (ws' := [(h0, .inr (12, [.ref q1, .int 0, .int 0, .ref q2, .int 0, vi (-1), .int 0, .int 0, .int 0, .int 0, .int 0, .int 0, .int 0, .null, .int 0, .int 0, .null, .int 0, .int 0, .null, .null, .int 0, .int 0, .null, .int 0, .int 0, .int 0, .null, .null, .null, .int 0, .int 0, .int 0, .int 0, .null, .null, .null, .int 0, .int 0, .null, .null, .null, .null, .null, .int 0, .int 0, .int 0, .long 0])), (q1, .inl (g.2.1.1, 700, .inl (fun _ => 0))), (q2, .inl (g.2.1.1, 41, .inl (wch wordsF 41)))] ++ wX11 g a) C 0 fu_12_16 rfl rfl rfl (Nat.le_of_ble_eq_true rfl) rfl dX12_init_263 ?_
    refine ac_aload_n (pc := 266) C 0 dX12_init_266 rfl rfl ?_
    refine ac_bipush (pc := 267) C dX12_init_267 (by decide) ?_
    refine ac_newa (pc := 269) (atype := .int) (ty := .int) (cA := g.2.1.1) (a0 := (48, .inl (fun _ => 0))) (N' := 48) (cl' := 3) (sl' := 789) C 0 rfl (Or.inl rfl) ar_int rfl (fun _ => rfl) rfl (Nat.le_of_ble_eq_true rfl) rfl rfl ⟨Nat.le_of_ble_eq_true rfl, Nat.le_of_ble_eq_true rfl⟩ dX12_init_269 (fun q3 => ?_)
    refine ac_perm (ws' := [(h0, .inr (12, [.ref q1, .int 0, .int 0, .ref q2, .int 0, vi (-1), .int 0, .int 0, .int 0, .int 0, .int 0, .int 0, .int 0, .null, .int 0, .int 0, .null, .int 0, .int 0, .null, .null, .int 0, .int 0, .null, .int 0, .int 0, .int 0, .null, .null, .null, .int 0, .int 0, .int 0, .int 0, .null, .null, .null, .int 0, .int 0, .null, .null, .null, .null, .null, .int 0, .int 0, .int 0, .long 0])), (q1, .inl (g.2.1.1, 700, .inl (fun _ => 0))), (q2, .inl (g.2.1.1, 41, .inl (wch wordsF 41))), (q3, .inl (g.2.1.1, 48, .inl (fun _ => 0)))] ++ wX11 g a) (perm_tail _ _ _) ?_
    refine ac_putF (pc := 271) (ws' := [(h0, .inr (12, [.ref q1, .int 0, .int 0, .ref q2, .int 0, vi (-1), .int 0, .int 0, .int 0, .int 0, .int 0, .int 0, .int 0, .ref q3, .int 0, .int 0, .null, .int 0, .int 0, .null, .null, .int 0, .int 0, .null, .int 0, .int 0, .int 0, .null, .null, .null, .int 0, .int 0, .int 0, .int 0, .null, .null, .null, .int 0, .int 0, .null, .null, .null, .null, .null, .int 0, .int 0, .int 0, .long 0])), (q1, .inl (g.2.1.1, 700, .inl (fun _ => 0))), (q2, .inl (g.2.1.1, 41, .inl (wch wordsF 41))), (q3, .inl (g.2.1.1, 48, .inl (fun _ => 0)))] ++ wX11 g a) C 0 fuf_12_20 rfl rfl rfl (Nat.le_of_ble_eq_true rfl) rfl dX12_init_271 ?_
    refine ac_aload_n (pc := 274) C 0 dX12_init_274 rfl rfl ?_
    refine ac_bipush (pc := 275) C dX12_init_275 (by decide) ?_
    refine ac_newa (pc := 277) (atype := .int) (ty := .int) (cA := g.2.1.1) (a0 := (96, .inl (fun _ => 0))) (N' := 96) (cl' := 4) (sl' := 885) C 0 rfl (Or.inl rfl) ar_int rfl (fun _ => rfl) rfl (Nat.le_of_ble_eq_true rfl) rfl rfl ⟨Nat.le_of_ble_eq_true rfl, Nat.le_of_ble_eq_true rfl⟩ dX12_init_277 (fun q4 => ?_)
    refine ac_perm (ws' := [(h0, .inr (12, [.ref q1, .int 0, .int 0, .ref q2, .int 0, vi (-1), .int 0, .int 0, .int 0, .int 0, .int 0, .int 0, .int 0, .ref q3, .int 0, .int 0, .null, .int 0, .int 0, .null, .null, .int 0, .int 0, .null, .int 0, .int 0, .int 0, .null, .null, .null, .int 0, .int 0, .int 0, .int 0, .null, .null, .null, .int 0, .int 0, .null, .null, .null, .null, .null, .int 0, .int 0, .int 0, .long 0])), (q1, .inl (g.2.1.1, 700, .inl (fun _ => 0))), (q2, .inl (g.2.1.1, 41, .inl (wch wordsF 41))), (q3, .inl (g.2.1.1, 48, .inl (fun _ => 0))), (q4, .inl (g.2.1.1, 96, .inl (fun _ => 0)))] ++ wX11 g a) (perm_tail _ _ _) ?_
    refine ac_putF (pc := 279) (ws' := [(h0, .inr (12, [.ref q1, .int 0, .int 0, .ref q2, .int 0, vi (-1), .int 0, .int 0, .int 0, .int 0, .int 0, .int 0, .int 0, .ref q3, .int 0, .int 0, .ref q4, .int 0, .int 0, .null, .null, .int 0, .int 0, .null, .int 0, .int 0, .int 0, .null, .null, .null, .int 0, .int 0, .int 0, .int 0, .null, .null, .null, .int 0, .int 0, .null, .null, .null, .null, .null, .int 0, .int 0, .int 0, .long 0])), (q1, .inl (g.2.1.1, 700, .inl (fun _ => 0))), (q2, .inl (g.2.1.1, 41, .inl (wch wordsF 41))), (q3, .inl (g.2.1.1, 48, .inl (fun _ => 0))), (q4, .inl (g.2.1.1, 96, .inl (fun _ => 0)))] ++ wX11 g a) C 0 fuf_12_23 rfl rfl rfl (Nat.le_of_ble_eq_true rfl) rfl dX12_init_279 ?_
    refine ac_aload_n (pc := 282) C 0 dX12_init_282 rfl rfl ?_
    refine ac_sipush (pc := 283) C dX12_init_283 (by decide) ?_
    refine ac_newa (pc := 286) (atype := .int) (ty := .int) (cA := g.2.1.1) (a0 := (128, .inl (fun _ => 0))) (N' := 128) (cl' := 5) (sl' := 1013) C 0 rfl (Or.inl rfl) ar_int rfl (fun _ => rfl) rfl (Nat.le_of_ble_eq_true rfl) rfl rfl ⟨Nat.le_of_ble_eq_true rfl, Nat.le_of_ble_eq_true rfl⟩ dX12_init_286 (fun q5 => ?_)
    refine ac_perm (ws' := [(h0, .inr (12, [.ref q1, .int 0, .int 0, .ref q2, .int 0, vi (-1), .int 0, .int 0, .int 0, .int 0, .int 0, .int 0, .int 0, .ref q3, .int 0, .int 0, .ref q4, .int 0, .int 0, .null, .null, .int 0, .int 0, .null, .int 0, .int 0, .int 0, .null, .null, .null, .int 0, .int 0, .int 0, .int 0, .null, .null, .null, .int 0, .int 0, .null, .null, .null, .null, .null, .int 0, .int 0, .int 0, .long 0])), (q1, .inl (g.2.1.1, 700, .inl (fun _ => 0))), (q2, .inl (g.2.1.1, 41, .inl (wch wordsF 41))), (q3, .inl (g.2.1.1, 48, .inl (fun _ => 0))), (q4, .inl (g.2.1.1, 96, .inl (fun _ => 0))), (q5, .inl (g.2.1.1, 128, .inl (fun _ => 0)))] ++ wX11 g a) (perm_tail _ _ _) ?_
    refine ac_putF (pc := 288) (ws' := [(h0, .inr (12, [.ref q1, .int 0, .int 0, .ref q2, .int 0, vi (-1), .int 0, .int 0, .int 0, .int 0, .int 0, .int 0, .int 0, .ref q3, .int 0, .int 0, .ref q4, .int 0, .int 0, .ref q5, .null, .int 0, .int 0, .null, .int 0, .int 0, .int 0, .null, .null, .null, .int 0, .int 0, .int 0, .int 0, .null, .null, .null, .int 0, .int 0, .null, .null, .null, .null, .null, .int 0, .int 0, .int 0, .long 0])), (q1, .inl (g.2.1.1, 700, .inl (fun _ => 0))), (q2, .inl (g.2.1.1, 41, .inl (wch wordsF 41))), (q3, .inl (g.2.1.1, 48, .inl (fun _ => 0))), (q4, .inl (g.2.1.1, 96, .inl (fun _ => 0))), (q5, .inl (g.2.1.1, 128, .inl (fun _ => 0)))] ++ wX11 g a) C 0 fuf_12_26 rfl rfl rfl (Nat.le_of_ble_eq_true rfl) rfl dX12_init_288 ?_
    refine ac_aload_n (pc := 291) C 0 dX12_init_291 rfl rfl ?_
    refine ac_bipush (pc := 292) C dX12_init_292 (by decide) ?_
    refine ac_newa (pc := 294) (atype := .int) (ty := .int) (cA := g.2.1.1) (a0 := (8, .inl (fun _ => 0))) (N' := 8) (cl' := 6) (sl' := 1021) C 0 rfl (Or.inl rfl) ar_int rfl (fun _ => rfl) rfl (Nat.le_of_ble_eq_true rfl) rfl rfl ⟨Nat.le_of_ble_eq_true rfl, Nat.le_of_ble_eq_true rfl⟩ dX12_init_294 (fun q6 => ?_)
    refine ac_perm (ws' := [(h0, .inr (12, [.ref q1, .int 0, .int 0, .ref q2, .int 0, vi (-1), .int 0, .int 0, .int 0, .int 0, .int 0, .int 0, .int 0, .ref q3, .int 0, .int 0, .ref q4, .int 0, .int 0, .ref q5, .null, .int 0, .int 0, .null, .int 0, .int 0, .int 0, .null, .null, .null, .int 0, .int 0, .int 0, .int 0, .null, .null, .null, .int 0, .int 0, .null, .null, .null, .null, .null, .int 0, .int 0, .int 0, .long 0])), (q1, .inl (g.2.1.1, 700, .inl (fun _ => 0))), (q2, .inl (g.2.1.1, 41, .inl (wch wordsF 41))), (q3, .inl (g.2.1.1, 48, .inl (fun _ => 0))), (q4, .inl (g.2.1.1, 96, .inl (fun _ => 0))), (q5, .inl (g.2.1.1, 128, .inl (fun _ => 0))), (q6, .inl (g.2.1.1, 8, .inl (fun _ => 0)))] ++ wX11 g a) (perm_tail _ _ _) ?_
    refine ac_dup (pc := 296) C dX12_init_296 rfl ?_
    refine ac_iconst (pc := 297) C dX12_init_297 ?_
    refine ac_bipush (pc := 298) C dX12_init_298 (by decide) ?_
    refine ac_iast (pc := 300) (f := wch toldF 0) (ws' := [(h0, .inr (12, [.ref q1, .int 0, .int 0, .ref q2, .int 0, vi (-1), .int 0, .int 0, .int 0, .int 0, .int 0, .int 0, .int 0, .ref q3, .int 0, .int 0, .ref q4, .int 0, .int 0, .ref q5, .null, .int 0, .int 0, .null, .int 0, .int 0, .int 0, .null, .null, .null, .int 0, .int 0, .int 0, .int 0, .null, .null, .null, .int 0, .int 0, .null, .null, .null, .null, .null, .int 0, .int 0, .int 0, .long 0])), (q1, .inl (g.2.1.1, 700, .inl (fun _ => 0))), (q2, .inl (g.2.1.1, 41, .inl (wch wordsF 41))), (q3, .inl (g.2.1.1, 48, .inl (fun _ => 0))), (q4, .inl (g.2.1.1, 96, .inl (fun _ => 0))), (q5, .inl (g.2.1.1, 128, .inl (fun _ => 0))), (q6, .inl (g.2.1.1, 8, .inl (wch toldF 1)))] ++ wX11 g a) C 6 rfl ⟨by decide, by decide⟩ (Nat.le_of_ble_eq_true rfl) rfl dX12_init_300 ?_
    refine ac_dup (pc := 301) C dX12_init_301 rfl ?_
    refine ac_iconst (pc := 302) C dX12_init_302 ?_
    refine ac_iconst (pc := 303) C dX12_init_303 ?_
    refine ac_iast (pc := 304) (f := wch toldF 1) (ws' := [(h0, .inr (12, [.ref q1, .int 0, .int 0, .ref q2, .int 0, vi (-1), .int 0, .int 0, .int 0, .int 0, .int 0, .int 0, .int 0, .ref q3, .int 0, .int 0, .ref q4, .int 0, .int 0, .ref q5, .null, .int 0, .int 0, .null, .int 0, .int 0, .int 0, .null, .null, .null, .int 0, .int 0, .int 0, .int 0, .null, .null, .null, .int 0, .int 0, .null, .null, .null, .null, .null, .int 0, .int 0, .int 0, .long 0])), (q1, .inl (g.2.1.1, 700, .inl (fun _ => 0))), (q2, .inl (g.2.1.1, 41, .inl (wch wordsF 41))), (q3, .inl (g.2.1.1, 48, .inl (fun _ => 0))), (q4, .inl (g.2.1.1, 96, .inl (fun _ => 0))), (q5, .inl (g.2.1.1, 128, .inl (fun _ => 0))), (q6, .inl (g.2.1.1, 8, .inl (wch toldF 2)))] ++ wX11 g a) C 6 rfl ⟨by decide, by decide⟩ (Nat.le_of_ble_eq_true rfl) rfl dX12_init_304 ?_
    refine ac_dup (pc := 305) C dX12_init_305 rfl ?_
    refine ac_iconst (pc := 306) C dX12_init_306 ?_
    refine ac_iconst (pc := 307) C dX12_init_307 ?_
    refine ac_iast (pc := 308) (f := wch toldF 2) (ws' := [(h0, .inr (12, [.ref q1, .int 0, .int 0, .ref q2, .int 0, vi (-1), .int 0, .int 0, .int 0, .int 0, .int 0, .int 0, .int 0, .ref q3, .int 0, .int 0, .ref q4, .int 0, .int 0, .ref q5, .null, .int 0, .int 0, .null, .int 0, .int 0, .int 0, .null, .null, .null, .int 0, .int 0, .int 0, .int 0, .null, .null, .null, .int 0, .int 0, .null, .null, .null, .null, .null, .int 0, .int 0, .int 0, .long 0])), (q1, .inl (g.2.1.1, 700, .inl (fun _ => 0))), (q2, .inl (g.2.1.1, 41, .inl (wch wordsF 41))), (q3, .inl (g.2.1.1, 48, .inl (fun _ => 0))), (q4, .inl (g.2.1.1, 96, .inl (fun _ => 0))), (q5, .inl (g.2.1.1, 128, .inl (fun _ => 0))), (q6, .inl (g.2.1.1, 8, .inl (wch toldF 3)))] ++ wX11 g a) C 6 rfl ⟨by decide, by decide⟩ (Nat.le_of_ble_eq_true rfl) rfl dX12_init_308 ?_
    refine ac_dup (pc := 309) C dX12_init_309 rfl ?_
    refine ac_iconst (pc := 310) C dX12_init_310 ?_
    refine ac_iconst (pc := 311) C dX12_init_311 ?_
    refine ac_iast (pc := 312) (f := wch toldF 3) (ws' := [(h0, .inr (12, [.ref q1, .int 0, .int 0, .ref q2, .int 0, vi (-1), .int 0, .int 0, .int 0, .int 0, .int 0, .int 0, .int 0, .ref q3, .int 0, .int 0, .ref q4, .int 0, .int 0, .ref q5, .null, .int 0, .int 0, .null, .int 0, .int 0, .int 0, .null, .null, .null, .int 0, .int 0, .int 0, .int 0, .null, .null, .null, .int 0, .int 0, .null, .null, .null, .null, .null, .int 0, .int 0, .int 0, .long 0])), (q1, .inl (g.2.1.1, 700, .inl (fun _ => 0))), (q2, .inl (g.2.1.1, 41, .inl (wch wordsF 41))), (q3, .inl (g.2.1.1, 48, .inl (fun _ => 0))), (q4, .inl (g.2.1.1, 96, .inl (fun _ => 0))), (q5, .inl (g.2.1.1, 128, .inl (fun _ => 0))), (q6, .inl (g.2.1.1, 8, .inl (wch toldF 4)))] ++ wX11 g a) C 6 rfl ⟨by decide, by decide⟩ (Nat.le_of_ble_eq_true rfl) rfl dX12_init_312 ?_
    refine ac_dup (pc := 313) C dX12_init_313 rfl ?_
    refine ac_iconst (pc := 314) C dX12_init_314 ?_
    refine ac_bipush (pc := 315) C dX12_init_315 (by decide) ?_
    refine ac_iast (pc := 317) (f := wch toldF 4) (ws' := [(h0, .inr (12, [.ref q1, .int 0, .int 0, .ref q2, .int 0, vi (-1), .int 0, .int 0, .int 0, .int 0, .int 0, .int 0, .int 0, .ref q3, .int 0, .int 0, .ref q4, .int 0, .int 0, .ref q5, .null, .int 0, .int 0, .null, .int 0, .int 0, .int 0, .null, .null, .null, .int 0, .int 0, .int 0, .int 0, .null, .null, .null, .int 0, .int 0, .null, .null, .null, .null, .null, .int 0, .int 0, .int 0, .long 0])), (q1, .inl (g.2.1.1, 700, .inl (fun _ => 0))), (q2, .inl (g.2.1.1, 41, .inl (wch wordsF 41))), (q3, .inl (g.2.1.1, 48, .inl (fun _ => 0))), (q4, .inl (g.2.1.1, 96, .inl (fun _ => 0))), (q5, .inl (g.2.1.1, 128, .inl (fun _ => 0))), (q6, .inl (g.2.1.1, 8, .inl (wch toldF 5)))] ++ wX11 g a) C 6 rfl ⟨by decide, by decide⟩ (Nat.le_of_ble_eq_true rfl) rfl dX12_init_317 ?_
    refine ac_dup (pc := 318) C dX12_init_318 rfl ?_
    refine ac_iconst (pc := 319) C dX12_init_319 ?_
    refine ac_iconst (pc := 320) C dX12_init_320 ?_
    refine ac_iast (pc := 321) (f := wch toldF 5) (ws' := [(h0, .inr (12, [.ref q1, .int 0, .int 0, .ref q2, .int 0, vi (-1), .int 0, .int 0, .int 0, .int 0, .int 0, .int 0, .int 0, .ref q3, .int 0, .int 0, .ref q4, .int 0, .int 0, .ref q5, .null, .int 0, .int 0, .null, .int 0, .int 0, .int 0, .null, .null, .null, .int 0, .int 0, .int 0, .int 0, .null, .null, .null, .int 0, .int 0, .null, .null, .null, .null, .null, .int 0, .int 0, .int 0, .long 0])), (q1, .inl (g.2.1.1, 700, .inl (fun _ => 0))), (q2, .inl (g.2.1.1, 41, .inl (wch wordsF 41))), (q3, .inl (g.2.1.1, 48, .inl (fun _ => 0))), (q4, .inl (g.2.1.1, 96, .inl (fun _ => 0))), (q5, .inl (g.2.1.1, 128, .inl (fun _ => 0))), (q6, .inl (g.2.1.1, 8, .inl (wch toldF 6)))] ++ wX11 g a) C 6 rfl ⟨by decide, by decide⟩ (Nat.le_of_ble_eq_true rfl) rfl dX12_init_321 ?_
    refine ac_dup (pc := 322) C dX12_init_322 rfl ?_
    refine ac_bipush (pc := 323) C dX12_init_323 (by decide) ?_
    refine ac_iconst (pc := 325) C dX12_init_325 ?_
    refine ac_iast (pc := 326) (f := wch toldF 6) (ws' := [(h0, .inr (12, [.ref q1, .int 0, .int 0, .ref q2, .int 0, vi (-1), .int 0, .int 0, .int 0, .int 0, .int 0, .int 0, .int 0, .ref q3, .int 0, .int 0, .ref q4, .int 0, .int 0, .ref q5, .null, .int 0, .int 0, .null, .int 0, .int 0, .int 0, .null, .null, .null, .int 0, .int 0, .int 0, .int 0, .null, .null, .null, .int 0, .int 0, .null, .null, .null, .null, .null, .int 0, .int 0, .int 0, .long 0])), (q1, .inl (g.2.1.1, 700, .inl (fun _ => 0))), (q2, .inl (g.2.1.1, 41, .inl (wch wordsF 41))), (q3, .inl (g.2.1.1, 48, .inl (fun _ => 0))), (q4, .inl (g.2.1.1, 96, .inl (fun _ => 0))), (q5, .inl (g.2.1.1, 128, .inl (fun _ => 0))), (q6, .inl (g.2.1.1, 8, .inl (wch toldF 7)))] ++ wX11 g a) C 6 rfl ⟨by decide, by decide⟩ (Nat.le_of_ble_eq_true rfl) rfl dX12_init_326 ?_
    refine ac_dup (pc := 327) C dX12_init_327 rfl ?_
    refine ac_bipush (pc := 328) C dX12_init_328 (by decide) ?_
    refine ac_iconst (pc := 330) C dX12_init_330 ?_
    refine ac_iast (pc := 331) (f := wch toldF 7) (ws' := [(h0, .inr (12, [.ref q1, .int 0, .int 0, .ref q2, .int 0, vi (-1), .int 0, .int 0, .int 0, .int 0, .int 0, .int 0, .int 0, .ref q3, .int 0, .int 0, .ref q4, .int 0, .int 0, .ref q5, .null, .int 0, .int 0, .null, .int 0, .int 0, .int 0, .null, .null, .null, .int 0, .int 0, .int 0, .int 0, .null, .null, .null, .int 0, .int 0, .null, .null, .null, .null, .null, .int 0, .int 0, .int 0, .long 0])), (q1, .inl (g.2.1.1, 700, .inl (fun _ => 0))), (q2, .inl (g.2.1.1, 41, .inl (wch wordsF 41))), (q3, .inl (g.2.1.1, 48, .inl (fun _ => 0))), (q4, .inl (g.2.1.1, 96, .inl (fun _ => 0))), (q5, .inl (g.2.1.1, 128, .inl (fun _ => 0))), (q6, .inl (g.2.1.1, 8, .inl (wch toldF 8)))] ++ wX11 g a) C 6 rfl ⟨by decide, by decide⟩ (Nat.le_of_ble_eq_true rfl) rfl dX12_init_331 ?_
    refine ac_putF (pc := 332) (ws' := [(h0, .inr (12, [.ref q1, .int 0, .int 0, .ref q2, .int 0, vi (-1), .int 0, .int 0, .int 0, .int 0, .int 0, .int 0, .int 0, .ref q3, .int 0, .int 0, .ref q4, .int 0, .int 0, .ref q5, .ref q6, .int 0, .int 0, .null, .int 0, .int 0, .int 0, .null, .null, .null, .int 0, .int 0, .int 0, .int 0, .null, .null, .null, .int 0, .int 0, .null, .null, .null, .null, .null, .int 0, .int 0, .int 0, .long 0])), (q1, .inl (g.2.1.1, 700, .inl (fun _ => 0))), (q2, .inl (g.2.1.1, 41, .inl (wch wordsF 41))), (q3, .inl (g.2.1.1, 48, .inl (fun _ => 0))), (q4, .inl (g.2.1.1, 96, .inl (fun _ => 0))), (q5, .inl (g.2.1.1, 128, .inl (fun _ => 0))), (q6, .inl (g.2.1.1, 8, .inl (wch toldF 8)))] ++ wX11 g a) C 0 fuf_12_29 rfl rfl rfl (Nat.le_of_ble_eq_true rfl) rfl dX12_init_332 ?_
    refine ac_aload_n (pc := 335) C 0 dX12_init_335 rfl rfl ?_
    refine ac_sipush (pc := 336) C dX12_init_336 (by decide) ?_
    refine ac_newa (pc := 339) (atype := .int) (ty := .int) (cA := g.2.1.1) (a0 := (4600, .inl (fun _ => 0))) (N' := 4600) (cl' := 7) (sl' := 5621) C 0 rfl (Or.inl rfl) ar_int rfl (fun _ => rfl) rfl (Nat.le_of_ble_eq_true rfl) rfl rfl ⟨Nat.le_of_ble_eq_true rfl, Nat.le_of_ble_eq_true rfl⟩ dX12_init_339 (fun q7 => ?_)
    refine ac_perm (ws' := [(h0, .inr (12, [.ref q1, .int 0, .int 0, .ref q2, .int 0, vi (-1), .int 0, .int 0, .int 0, .int 0, .int 0, .int 0, .int 0, .ref q3, .int 0, .int 0, .ref q4, .int 0, .int 0, .ref q5, .ref q6, .int 0, .int 0, .null, .int 0, .int 0, .int 0, .null, .null, .null, .int 0, .int 0, .int 0, .int 0, .null, .null, .null, .int 0, .int 0, .null, .null, .null, .null, .null, .int 0, .int 0, .int 0, .long 0])), (q1, .inl (g.2.1.1, 700, .inl (fun _ => 0))), (q2, .inl (g.2.1.1, 41, .inl (wch wordsF 41))), (q3, .inl (g.2.1.1, 48, .inl (fun _ => 0))), (q4, .inl (g.2.1.1, 96, .inl (fun _ => 0))), (q5, .inl (g.2.1.1, 128, .inl (fun _ => 0))), (q6, .inl (g.2.1.1, 8, .inl (wch toldF 8))), (q7, .inl (g.2.1.1, 4600, .inl (fun _ => 0)))] ++ wX11 g a) (perm_tail _ _ _) ?_
    refine ac_putF (pc := 341) (ws' := [(h0, .inr (12, [.ref q1, .int 0, .int 0, .ref q2, .int 0, vi (-1), .int 0, .int 0, .int 0, .int 0, .int 0, .int 0, .int 0, .ref q3, .int 0, .int 0, .ref q4, .int 0, .int 0, .ref q5, .ref q6, .int 0, .int 0, .ref q7, .int 0, .int 0, .int 0, .null, .null, .null, .int 0, .int 0, .int 0, .int 0, .null, .null, .null, .int 0, .int 0, .null, .null, .null, .null, .null, .int 0, .int 0, .int 0, .long 0])), (q1, .inl (g.2.1.1, 700, .inl (fun _ => 0))), (q2, .inl (g.2.1.1, 41, .inl (wch wordsF 41))), (q3, .inl (g.2.1.1, 48, .inl (fun _ => 0))), (q4, .inl (g.2.1.1, 96, .inl (fun _ => 0))), (q5, .inl (g.2.1.1, 128, .inl (fun _ => 0))), (q6, .inl (g.2.1.1, 8, .inl (wch toldF 8))), (q7, .inl (g.2.1.1, 4600, .inl (fun _ => 0)))] ++ wX11 g a) C 0 fuf_12_32 rfl rfl rfl (Nat.le_of_ble_eq_true rfl) rfl dX12_init_341 ?_
    refine ac_aload_n (pc := 344) C 0 dX12_init_344 rfl rfl ?_
    refine ac_bipush (pc := 345) C dX12_init_345 (by decide) ?_
    refine ac_newa (pc := 347) (atype := .float) (ty := .float) (cA := g.2.1.2.2.1) (a0 := (64, .inr (.inr (.inl (fun _ => 0))))) (N' := 64) (cl' := 8) (sl' := 5685) C 2 rfl (Or.inr (Or.inr (Or.inl rfl))) ar_float rfl (fun _ => rfl) rfl (Nat.le_of_ble_eq_true rfl) rfl rfl ⟨Nat.le_of_ble_eq_true rfl, Nat.le_of_ble_eq_true rfl⟩ dX12_init_347 (fun q8 => ?_)
    refine ac_perm (ws' := [(h0, .inr (12, [.ref q1, .int 0, .int 0, .ref q2, .int 0, vi (-1), .int 0, .int 0, .int 0, .int 0, .int 0, .int 0, .int 0, .ref q3, .int 0, .int 0, .ref q4, .int 0, .int 0, .ref q5, .ref q6, .int 0, .int 0, .ref q7, .int 0, .int 0, .int 0, .null, .null, .null, .int 0, .int 0, .int 0, .int 0, .null, .null, .null, .int 0, .int 0, .null, .null, .null, .null, .null, .int 0, .int 0, .int 0, .long 0])), (q1, .inl (g.2.1.1, 700, .inl (fun _ => 0))), (q2, .inl (g.2.1.1, 41, .inl (wch wordsF 41))), (q3, .inl (g.2.1.1, 48, .inl (fun _ => 0))), (q4, .inl (g.2.1.1, 96, .inl (fun _ => 0))), (q5, .inl (g.2.1.1, 128, .inl (fun _ => 0))), (q6, .inl (g.2.1.1, 8, .inl (wch toldF 8))), (q7, .inl (g.2.1.1, 4600, .inl (fun _ => 0))), (q8, .inl (g.2.1.2.2.1, 64, .inr (.inr (.inl (fun _ => 0)))))] ++ wX11 g a) (perm_tail _ _ _) ?_
    refine ac_putF (pc := 349) (ws' := [(h0, .inr (12, [.ref q1, .int 0, .int 0, .ref q2, .int 0, vi (-1), .int 0, .int 0, .int 0, .int 0, .int 0, .int 0, .int 0, .ref q3, .int 0, .int 0, .ref q4, .int 0, .int 0, .ref q5, .ref q6, .int 0, .int 0, .ref q7, .int 0, .int 0, .int 0, .ref q8, .null, .null, .int 0, .int 0, .int 0, .int 0, .null, .null, .null, .int 0, .int 0, .null, .null, .null, .null, .null, .int 0, .int 0, .int 0, .long 0])), (q1, .inl (g.2.1.1, 700, .inl (fun _ => 0))), (q2, .inl (g.2.1.1, 41, .inl (wch wordsF 41))), (q3, .inl (g.2.1.1, 48, .inl (fun _ => 0))), (q4, .inl (g.2.1.1, 96, .inl (fun _ => 0))), (q5, .inl (g.2.1.1, 128, .inl (fun _ => 0))), (q6, .inl (g.2.1.1, 8, .inl (wch toldF 8))), (q7, .inl (g.2.1.1, 4600, .inl (fun _ => 0))), (q8, .inl (g.2.1.2.2.1, 64, .inr (.inr (.inl (fun _ => 0)))))] ++ wX11 g a) C 0 fuf_12_35 rfl rfl rfl (Nat.le_of_ble_eq_true rfl) rfl dX12_init_349 ?_
    refine ac_aload_n (pc := 352) C 0 dX12_init_352 rfl rfl ?_
    refine ac_bipush (pc := 353) C dX12_init_353 (by decide) ?_
    refine ac_newa (pc := 355) (atype := .int) (ty := .int) (cA := g.2.1.1) (a0 := (26, .inl (fun _ => 0))) (N' := 26) (cl' := 9) (sl' := 5711) C 0 rfl (Or.inl rfl) ar_int rfl (fun _ => rfl) rfl (Nat.le_of_ble_eq_true rfl) rfl rfl ⟨Nat.le_of_ble_eq_true rfl, Nat.le_of_ble_eq_true rfl⟩ dX12_init_355 (fun q9 => ?_)
    refine ac_perm (ws' := [(h0, .inr (12, [.ref q1, .int 0, .int 0, .ref q2, .int 0, vi (-1), .int 0, .int 0, .int 0, .int 0, .int 0, .int 0, .int 0, .ref q3, .int 0, .int 0, .ref q4, .int 0, .int 0, .ref q5, .ref q6, .int 0, .int 0, .ref q7, .int 0, .int 0, .int 0, .ref q8, .null, .null, .int 0, .int 0, .int 0, .int 0, .null, .null, .null, .int 0, .int 0, .null, .null, .null, .null, .null, .int 0, .int 0, .int 0, .long 0])), (q1, .inl (g.2.1.1, 700, .inl (fun _ => 0))), (q2, .inl (g.2.1.1, 41, .inl (wch wordsF 41))), (q3, .inl (g.2.1.1, 48, .inl (fun _ => 0))), (q4, .inl (g.2.1.1, 96, .inl (fun _ => 0))), (q5, .inl (g.2.1.1, 128, .inl (fun _ => 0))), (q6, .inl (g.2.1.1, 8, .inl (wch toldF 8))), (q7, .inl (g.2.1.1, 4600, .inl (fun _ => 0))), (q8, .inl (g.2.1.2.2.1, 64, .inr (.inr (.inl (fun _ => 0))))), (q9, .inl (g.2.1.1, 26, .inl (fun _ => 0)))] ++ wX11 g a) (perm_tail _ _ _) ?_
    refine ac_putF (pc := 357) (ws' := [(h0, .inr (12, [.ref q1, .int 0, .int 0, .ref q2, .int 0, vi (-1), .int 0, .int 0, .int 0, .int 0, .int 0, .int 0, .int 0, .ref q3, .int 0, .int 0, .ref q4, .int 0, .int 0, .ref q5, .ref q6, .int 0, .int 0, .ref q7, .int 0, .int 0, .int 0, .ref q8, .ref q9, .null, .int 0, .int 0, .int 0, .int 0, .null, .null, .null, .int 0, .int 0, .null, .null, .null, .null, .null, .int 0, .int 0, .int 0, .long 0])), (q1, .inl (g.2.1.1, 700, .inl (fun _ => 0))), (q2, .inl (g.2.1.1, 41, .inl (wch wordsF 41))), (q3, .inl (g.2.1.1, 48, .inl (fun _ => 0))), (q4, .inl (g.2.1.1, 96, .inl (fun _ => 0))), (q5, .inl (g.2.1.1, 128, .inl (fun _ => 0))), (q6, .inl (g.2.1.1, 8, .inl (wch toldF 8))), (q7, .inl (g.2.1.1, 4600, .inl (fun _ => 0))), (q8, .inl (g.2.1.2.2.1, 64, .inr (.inr (.inl (fun _ => 0))))), (q9, .inl (g.2.1.1, 26, .inl (fun _ => 0)))] ++ wX11 g a) C 0 fuf_12_39 rfl rfl rfl (Nat.le_of_ble_eq_true rfl) rfl dX12_init_357 ?_
    refine ac_aload_n (pc := 360) C 0 dX12_init_360 rfl rfl ?_
    refine ac_sipush (pc := 361) C dX12_init_361 (by decide) ?_
    refine ac_newa (pc := 364) (atype := .int) (ty := .int) (cA := g.2.1.1) (a0 := (208, .inl (fun _ => 0))) (N' := 208) (cl' := 10) (sl' := 5919) C 0 rfl (Or.inl rfl) ar_int rfl (fun _ => rfl) rfl (Nat.le_of_ble_eq_true rfl) rfl rfl ⟨Nat.le_of_ble_eq_true rfl, Nat.le_of_ble_eq_true rfl⟩ dX12_init_364 (fun q10 => ?_)
    refine ac_perm (ws' := [(h0, .inr (12, [.ref q1, .int 0, .int 0, .ref q2, .int 0, vi (-1), .int 0, .int 0, .int 0, .int 0, .int 0, .int 0, .int 0, .ref q3, .int 0, .int 0, .ref q4, .int 0, .int 0, .ref q5, .ref q6, .int 0, .int 0, .ref q7, .int 0, .int 0, .int 0, .ref q8, .ref q9, .null, .int 0, .int 0, .int 0, .int 0, .null, .null, .null, .int 0, .int 0, .null, .null, .null, .null, .null, .int 0, .int 0, .int 0, .long 0])), (q1, .inl (g.2.1.1, 700, .inl (fun _ => 0))), (q2, .inl (g.2.1.1, 41, .inl (wch wordsF 41))), (q3, .inl (g.2.1.1, 48, .inl (fun _ => 0))), (q4, .inl (g.2.1.1, 96, .inl (fun _ => 0))), (q5, .inl (g.2.1.1, 128, .inl (fun _ => 0))), (q6, .inl (g.2.1.1, 8, .inl (wch toldF 8))), (q7, .inl (g.2.1.1, 4600, .inl (fun _ => 0))), (q8, .inl (g.2.1.2.2.1, 64, .inr (.inr (.inl (fun _ => 0))))), (q9, .inl (g.2.1.1, 26, .inl (fun _ => 0))), (q10, .inl (g.2.1.1, 208, .inl (fun _ => 0)))] ++ wX11 g a) (perm_tail _ _ _) ?_
    refine ac_putF (pc := 366) (ws' := [(h0, .inr (12, [.ref q1, .int 0, .int 0, .ref q2, .int 0, vi (-1), .int 0, .int 0, .int 0, .int 0, .int 0, .int 0, .int 0, .ref q3, .int 0, .int 0, .ref q4, .int 0, .int 0, .ref q5, .ref q6, .int 0, .int 0, .ref q7, .int 0, .int 0, .int 0, .ref q8, .ref q9, .ref q10, .int 0, .int 0, .int 0, .int 0, .null, .null, .null, .int 0, .int 0, .null, .null, .null, .null, .null, .int 0, .int 0, .int 0, .long 0])), (q1, .inl (g.2.1.1, 700, .inl (fun _ => 0))), (q2, .inl (g.2.1.1, 41, .inl (wch wordsF 41))), (q3, .inl (g.2.1.1, 48, .inl (fun _ => 0))), (q4, .inl (g.2.1.1, 96, .inl (fun _ => 0))), (q5, .inl (g.2.1.1, 128, .inl (fun _ => 0))), (q6, .inl (g.2.1.1, 8, .inl (wch toldF 8))), (q7, .inl (g.2.1.1, 4600, .inl (fun _ => 0))), (q8, .inl (g.2.1.2.2.1, 64, .inr (.inr (.inl (fun _ => 0))))), (q9, .inl (g.2.1.1, 26, .inl (fun _ => 0))), (q10, .inl (g.2.1.1, 208, .inl (fun _ => 0)))] ++ wX11 g a) C 0 fuf_12_42 rfl rfl rfl (Nat.le_of_ble_eq_true rfl) rfl dX12_init_366 ?_
    refine ac_aload_n (pc := 369) C 0 dX12_init_369 rfl rfl ?_
    refine ac_iconst (pc := 370) C dX12_init_370 ?_
    refine ac_put (pc := 371) (ws' := [(h0, .inr (12, [.ref q1, .int 0, .int 0, .ref q2, .int 0, vi (-1), .int 0, .int 0, .int 0, .int 0, .int 0, .int 0, .int 0, .ref q3, .int 0, .int 0, .ref q4, .int 0, .int 0, .ref q5, .ref q6, .int 0, .int 0, .ref q7, .int 0, .int 0, .int 0, .ref q8, .ref q9, .ref q10, .int 0, vi (-1), .int 0, .int 0, .null, .null, .null, .int 0, .int 0, .null, .null, .null, .null, .null, .int 0, .int 0, .int 0, .long 0])), (q1, .inl (g.2.1.1, 700, .inl (fun _ => 0))), (q2, .inl (g.2.1.1, 41, .inl (wch wordsF 41))), (q3, .inl (g.2.1.1, 48, .inl (fun _ => 0))), (q4, .inl (g.2.1.1, 96, .inl (fun _ => 0))), (q5, .inl (g.2.1.1, 128, .inl (fun _ => 0))), (q6, .inl (g.2.1.1, 8, .inl (wch toldF 8))), (q7, .inl (g.2.1.1, 4600, .inl (fun _ => 0))), (q8, .inl (g.2.1.2.2.1, 64, .inr (.inr (.inl (fun _ => 0))))), (q9, .inl (g.2.1.1, 26, .inl (fun _ => 0))), (q10, .inl (g.2.1.1, 208, .inl (fun _ => 0)))] ++ wX11 g a) C 0 fu_12_45 rfl rfl rfl (Nat.le_of_ble_eq_true rfl) rfl dX12_init_371 ?_
    refine ac_aload_n (pc := 374) C 0 dX12_init_374 rfl rfl ?_
    refine ac_bipush (pc := 375) C dX12_init_375 (by decide) ?_
    refine ac_newa (pc := 377) (atype := .int) (ty := .int) (cA := g.2.1.1) (a0 := (12, .inl (fun _ => 0))) (N' := 12) (cl' := 11) (sl' := 5931) C 0 rfl (Or.inl rfl) ar_int rfl (fun _ => rfl) rfl (Nat.le_of_ble_eq_true rfl) rfl rfl ⟨Nat.le_of_ble_eq_true rfl, Nat.le_of_ble_eq_true rfl⟩ dX12_init_377 (fun q11 => ?_)
    refine ac_perm (ws' := [(h0, .inr (12, [.ref q1, .int 0, .int 0, .ref q2, .int 0, vi (-1), .int 0, .int 0, .int 0, .int 0, .int 0, .int 0, .int 0, .ref q3, .int 0, .int 0, .ref q4, .int 0, .int 0, .ref q5, .ref q6, .int 0, .int 0, .ref q7, .int 0, .int 0, .int 0, .ref q8, .ref q9, .ref q10, .int 0, vi (-1), .int 0, .int 0, .null, .null, .null, .int 0, .int 0, .null, .null, .null, .null, .null, .int 0, .int 0, .int 0, .long 0])), (q1, .inl (g.2.1.1, 700, .inl (fun _ => 0))), (q2, .inl (g.2.1.1, 41, .inl (wch wordsF 41))), (q3, .inl (g.2.1.1, 48, .inl (fun _ => 0))), (q4, .inl (g.2.1.1, 96, .inl (fun _ => 0))), (q5, .inl (g.2.1.1, 128, .inl (fun _ => 0))), (q6, .inl (g.2.1.1, 8, .inl (wch toldF 8))), (q7, .inl (g.2.1.1, 4600, .inl (fun _ => 0))), (q8, .inl (g.2.1.2.2.1, 64, .inr (.inr (.inl (fun _ => 0))))), (q9, .inl (g.2.1.1, 26, .inl (fun _ => 0))), (q10, .inl (g.2.1.1, 208, .inl (fun _ => 0))), (q11, .inl (g.2.1.1, 12, .inl (fun _ => 0)))] ++ wX11 g a) (perm_tail _ _ _) ?_
    refine ac_putF (pc := 379) (ws' := [(h0, .inr (12, [.ref q1, .int 0, .int 0, .ref q2, .int 0, vi (-1), .int 0, .int 0, .int 0, .int 0, .int 0, .int 0, .int 0, .ref q3, .int 0, .int 0, .ref q4, .int 0, .int 0, .ref q5, .ref q6, .int 0, .int 0, .ref q7, .int 0, .int 0, .int 0, .ref q8, .ref q9, .ref q10, .int 0, vi (-1), .int 0, .int 0, .ref q11, .null, .null, .int 0, .int 0, .null, .null, .null, .null, .null, .int 0, .int 0, .int 0, .long 0])), (q1, .inl (g.2.1.1, 700, .inl (fun _ => 0))), (q2, .inl (g.2.1.1, 41, .inl (wch wordsF 41))), (q3, .inl (g.2.1.1, 48, .inl (fun _ => 0))), (q4, .inl (g.2.1.1, 96, .inl (fun _ => 0))), (q5, .inl (g.2.1.1, 128, .inl (fun _ => 0))), (q6, .inl (g.2.1.1, 8, .inl (wch toldF 8))), (q7, .inl (g.2.1.1, 4600, .inl (fun _ => 0))), (q8, .inl (g.2.1.2.2.1, 64, .inr (.inr (.inl (fun _ => 0))))), (q9, .inl (g.2.1.1, 26, .inl (fun _ => 0))), (q10, .inl (g.2.1.1, 208, .inl (fun _ => 0))), (q11, .inl (g.2.1.1, 12, .inl (fun _ => 0)))] ++ wX11 g a) C 0 fuf_12_48 rfl rfl rfl (Nat.le_of_ble_eq_true rfl) rfl dX12_init_379 ?_
    refine ac_aload_n (pc := 382) C 0 dX12_init_382 rfl rfl ?_
    refine ac_sipush (pc := 383) C dX12_init_383 (by decide) ?_
    refine ac_newa (pc := 386) (atype := .int) (ty := .int) (cA := g.2.1.1) (a0 := (144, .inl (fun _ => 0))) (N' := 144) (cl' := 12) (sl' := 6075) C 0 rfl (Or.inl rfl) ar_int rfl (fun _ => rfl) rfl (Nat.le_of_ble_eq_true rfl) rfl rfl ⟨Nat.le_of_ble_eq_true rfl, Nat.le_of_ble_eq_true rfl⟩ dX12_init_386 (fun q12 => ?_)
    refine ac_perm (ws' := [(h0, .inr (12, [.ref q1, .int 0, .int 0, .ref q2, .int 0, vi (-1), .int 0, .int 0, .int 0, .int 0, .int 0, .int 0, .int 0, .ref q3, .int 0, .int 0, .ref q4, .int 0, .int 0, .ref q5, .ref q6, .int 0, .int 0, .ref q7, .int 0, .int 0, .int 0, .ref q8, .ref q9, .ref q10, .int 0, vi (-1), .int 0, .int 0, .ref q11, .null, .null, .int 0, .int 0, .null, .null, .null, .null, .null, .int 0, .int 0, .int 0, .long 0])), (q1, .inl (g.2.1.1, 700, .inl (fun _ => 0))), (q2, .inl (g.2.1.1, 41, .inl (wch wordsF 41))), (q3, .inl (g.2.1.1, 48, .inl (fun _ => 0))), (q4, .inl (g.2.1.1, 96, .inl (fun _ => 0))), (q5, .inl (g.2.1.1, 128, .inl (fun _ => 0))), (q6, .inl (g.2.1.1, 8, .inl (wch toldF 8))), (q7, .inl (g.2.1.1, 4600, .inl (fun _ => 0))), (q8, .inl (g.2.1.2.2.1, 64, .inr (.inr (.inl (fun _ => 0))))), (q9, .inl (g.2.1.1, 26, .inl (fun _ => 0))), (q10, .inl (g.2.1.1, 208, .inl (fun _ => 0))), (q11, .inl (g.2.1.1, 12, .inl (fun _ => 0))), (q12, .inl (g.2.1.1, 144, .inl (fun _ => 0)))] ++ wX11 g a) (perm_tail _ _ _) ?_
    refine ac_putF (pc := 388) (ws' := [(h0, .inr (12, [.ref q1, .int 0, .int 0, .ref q2, .int 0, vi (-1), .int 0, .int 0, .int 0, .int 0, .int 0, .int 0, .int 0, .ref q3, .int 0, .int 0, .ref q4, .int 0, .int 0, .ref q5, .ref q6, .int 0, .int 0, .ref q7, .int 0, .int 0, .int 0, .ref q8, .ref q9, .ref q10, .int 0, vi (-1), .int 0, .int 0, .ref q11, .ref q12, .null, .int 0, .int 0, .null, .null, .null, .null, .null, .int 0, .int 0, .int 0, .long 0])), (q1, .inl (g.2.1.1, 700, .inl (fun _ => 0))), (q2, .inl (g.2.1.1, 41, .inl (wch wordsF 41))), (q3, .inl (g.2.1.1, 48, .inl (fun _ => 0))), (q4, .inl (g.2.1.1, 96, .inl (fun _ => 0))), (q5, .inl (g.2.1.1, 128, .inl (fun _ => 0))), (q6, .inl (g.2.1.1, 8, .inl (wch toldF 8))), (q7, .inl (g.2.1.1, 4600, .inl (fun _ => 0))), (q8, .inl (g.2.1.2.2.1, 64, .inr (.inr (.inl (fun _ => 0))))), (q9, .inl (g.2.1.1, 26, .inl (fun _ => 0))), (q10, .inl (g.2.1.1, 208, .inl (fun _ => 0))), (q11, .inl (g.2.1.1, 12, .inl (fun _ => 0))), (q12, .inl (g.2.1.1, 144, .inl (fun _ => 0)))] ++ wX11 g a) C 0 fuf_12_51 rfl rfl rfl (Nat.le_of_ble_eq_true rfl) rfl dX12_init_388 ?_
    refine ac_aload_n (pc := 391) C 0 dX12_init_391 rfl rfl ?_
    refine ac_sipush (pc := 392) C dX12_init_392 (by decide) ?_
    refine ac_newa (pc := 395) (atype := .int) (ty := .int) (cA := g.2.1.1) (a0 := (144, .inl (fun _ => 0))) (N' := 144) (cl' := 13) (sl' := 6219) C 0 rfl (Or.inl rfl) ar_int rfl (fun _ => rfl) rfl (Nat.le_of_ble_eq_true rfl) rfl rfl ⟨Nat.le_of_ble_eq_true rfl, Nat.le_of_ble_eq_true rfl⟩ dX12_init_395 (fun q13 => ?_)
    refine ac_perm (ws' := [(h0, .inr (12, [.ref q1, .int 0, .int 0, .ref q2, .int 0, vi (-1), .int 0, .int 0, .int 0, .int 0, .int 0, .int 0, .int 0, .ref q3, .int 0, .int 0, .ref q4, .int 0, .int 0, .ref q5, .ref q6, .int 0, .int 0, .ref q7, .int 0, .int 0, .int 0, .ref q8, .ref q9, .ref q10, .int 0, vi (-1), .int 0, .int 0, .ref q11, .ref q12, .null, .int 0, .int 0, .null, .null, .null, .null, .null, .int 0, .int 0, .int 0, .long 0])), (q1, .inl (g.2.1.1, 700, .inl (fun _ => 0))), (q2, .inl (g.2.1.1, 41, .inl (wch wordsF 41))), (q3, .inl (g.2.1.1, 48, .inl (fun _ => 0))), (q4, .inl (g.2.1.1, 96, .inl (fun _ => 0))), (q5, .inl (g.2.1.1, 128, .inl (fun _ => 0))), (q6, .inl (g.2.1.1, 8, .inl (wch toldF 8))), (q7, .inl (g.2.1.1, 4600, .inl (fun _ => 0))), (q8, .inl (g.2.1.2.2.1, 64, .inr (.inr (.inl (fun _ => 0))))), (q9, .inl (g.2.1.1, 26, .inl (fun _ => 0))), (q10, .inl (g.2.1.1, 208, .inl (fun _ => 0))), (q11, .inl (g.2.1.1, 12, .inl (fun _ => 0))), (q12, .inl (g.2.1.1, 144, .inl (fun _ => 0))), (q13, .inl (g.2.1.1, 144, .inl (fun _ => 0)))] ++ wX11 g a) (perm_tail _ _ _) ?_
    refine ac_putF (pc := 397) (ws' := [(h0, .inr (12, [.ref q1, .int 0, .int 0, .ref q2, .int 0, vi (-1), .int 0, .int 0, .int 0, .int 0, .int 0, .int 0, .int 0, .ref q3, .int 0, .int 0, .ref q4, .int 0, .int 0, .ref q5, .ref q6, .int 0, .int 0, .ref q7, .int 0, .int 0, .int 0, .ref q8, .ref q9, .ref q10, .int 0, vi (-1), .int 0, .int 0, .ref q11, .ref q12, .ref q13, .int 0, .int 0, .null, .null, .null, .null, .null, .int 0, .int 0, .int 0, .long 0])), (q1, .inl (g.2.1.1, 700, .inl (fun _ => 0))), (q2, .inl (g.2.1.1, 41, .inl (wch wordsF 41))), (q3, .inl (g.2.1.1, 48, .inl (fun _ => 0))), (q4, .inl (g.2.1.1, 96, .inl (fun _ => 0))), (q5, .inl (g.2.1.1, 128, .inl (fun _ => 0))), (q6, .inl (g.2.1.1, 8, .inl (wch toldF 8))), (q7, .inl (g.2.1.1, 4600, .inl (fun _ => 0))), (q8, .inl (g.2.1.2.2.1, 64, .inr (.inr (.inl (fun _ => 0))))), (q9, .inl (g.2.1.1, 26, .inl (fun _ => 0))), (q10, .inl (g.2.1.1, 208, .inl (fun _ => 0))), (q11, .inl (g.2.1.1, 12, .inl (fun _ => 0))), (q12, .inl (g.2.1.1, 144, .inl (fun _ => 0))), (q13, .inl (g.2.1.1, 144, .inl (fun _ => 0)))] ++ wX11 g a) C 0 fuf_12_54 rfl rfl rfl (Nat.le_of_ble_eq_true rfl) rfl dX12_init_397 ?_
    refine ac_aload_n (pc := 400) C 0 dX12_init_400 rfl rfl ?_
    refine ac_iconst (pc := 401) C dX12_init_401 ?_
    refine ac_put (pc := 402) (ws' := [(h0, .inr (12, [.ref q1, .int 0, .int 0, .ref q2, .int 0, vi (-1), .int 0, .int 0, .int 0, .int 0, .int 0, .int 0, .int 0, .ref q3, .int 0, .int 0, .ref q4, .int 0, .int 0, .ref q5, .ref q6, .int 0, .int 0, .ref q7, .int 0, .int 0, .int 0, .ref q8, .ref q9, .ref q10, .int 0, vi (-1), .int 0, .int 0, .ref q11, .ref q12, .ref q13, .int 0, vi (-1), .null, .null, .null, .null, .null, .int 0, .int 0, .int 0, .long 0])), (q1, .inl (g.2.1.1, 700, .inl (fun _ => 0))), (q2, .inl (g.2.1.1, 41, .inl (wch wordsF 41))), (q3, .inl (g.2.1.1, 48, .inl (fun _ => 0))), (q4, .inl (g.2.1.1, 96, .inl (fun _ => 0))), (q5, .inl (g.2.1.1, 128, .inl (fun _ => 0))), (q6, .inl (g.2.1.1, 8, .inl (wch toldF 8))), (q7, .inl (g.2.1.1, 4600, .inl (fun _ => 0))), (q8, .inl (g.2.1.2.2.1, 64, .inr (.inr (.inl (fun _ => 0))))), (q9, .inl (g.2.1.1, 26, .inl (fun _ => 0))), (q10, .inl (g.2.1.1, 208, .inl (fun _ => 0))), (q11, .inl (g.2.1.1, 12, .inl (fun _ => 0))), (q12, .inl (g.2.1.1, 144, .inl (fun _ => 0))), (q13, .inl (g.2.1.1, 144, .inl (fun _ => 0)))] ++ wX11 g a) C 0 fu_12_57 rfl rfl rfl (Nat.le_of_ble_eq_true rfl) rfl dX12_init_402 ?_
    refine ac_aload_n (pc := 405) C 0 dX12_init_405 rfl rfl ?_
    refine ac_bipush (pc := 406) C dX12_init_406 (by decide) ?_
    refine ac_newa (pc := 408) (atype := .int) (ty := .int) (cA := g.2.1.1) (a0 := (12, .inl (fun _ => 0))) (N' := 12) (cl' := 14) (sl' := 6231) C 0 rfl (Or.inl rfl) ar_int rfl (fun _ => rfl) rfl (Nat.le_of_ble_eq_true rfl) rfl rfl ⟨Nat.le_of_ble_eq_true rfl, Nat.le_of_ble_eq_true rfl⟩ dX12_init_408 (fun q14 => ?_)
    refine ac_perm (ws' := [(h0, .inr (12, [.ref q1, .int 0, .int 0, .ref q2, .int 0, vi (-1), .int 0, .int 0, .int 0, .int 0, .int 0, .int 0, .int 0, .ref q3, .int 0, .int 0, .ref q4, .int 0, .int 0, .ref q5, .ref q6, .int 0, .int 0, .ref q7, .int 0, .int 0, .int 0, .ref q8, .ref q9, .ref q10, .int 0, vi (-1), .int 0, .int 0, .ref q11, .ref q12, .ref q13, .int 0, vi (-1), .null, .null, .null, .null, .null, .int 0, .int 0, .int 0, .long 0])), (q1, .inl (g.2.1.1, 700, .inl (fun _ => 0))), (q2, .inl (g.2.1.1, 41, .inl (wch wordsF 41))), (q3, .inl (g.2.1.1, 48, .inl (fun _ => 0))), (q4, .inl (g.2.1.1, 96, .inl (fun _ => 0))), (q5, .inl (g.2.1.1, 128, .inl (fun _ => 0))), (q6, .inl (g.2.1.1, 8, .inl (wch toldF 8))), (q7, .inl (g.2.1.1, 4600, .inl (fun _ => 0))), (q8, .inl (g.2.1.2.2.1, 64, .inr (.inr (.inl (fun _ => 0))))), (q9, .inl (g.2.1.1, 26, .inl (fun _ => 0))), (q10, .inl (g.2.1.1, 208, .inl (fun _ => 0))), (q11, .inl (g.2.1.1, 12, .inl (fun _ => 0))), (q12, .inl (g.2.1.1, 144, .inl (fun _ => 0))), (q13, .inl (g.2.1.1, 144, .inl (fun _ => 0))), (q14, .inl (g.2.1.1, 12, .inl (fun _ => 0)))] ++ wX11 g a) (perm_tail _ _ _) ?_
    refine ac_putF (pc := 410) (ws' := [(h0, .inr (12, [.ref q1, .int 0, .int 0, .ref q2, .int 0, vi (-1), .int 0, .int 0, .int 0, .int 0, .int 0, .int 0, .int 0, .ref q3, .int 0, .int 0, .ref q4, .int 0, .int 0, .ref q5, .ref q6, .int 0, .int 0, .ref q7, .int 0, .int 0, .int 0, .ref q8, .ref q9, .ref q10, .int 0, vi (-1), .int 0, .int 0, .ref q11, .ref q12, .ref q13, .int 0, vi (-1), .ref q14, .null, .null, .null, .null, .int 0, .int 0, .int 0, .long 0])), (q1, .inl (g.2.1.1, 700, .inl (fun _ => 0))), (q2, .inl (g.2.1.1, 41, .inl (wch wordsF 41))), (q3, .inl (g.2.1.1, 48, .inl (fun _ => 0))), (q4, .inl (g.2.1.1, 96, .inl (fun _ => 0))), (q5, .inl (g.2.1.1, 128, .inl (fun _ => 0))), (q6, .inl (g.2.1.1, 8, .inl (wch toldF 8))), (q7, .inl (g.2.1.1, 4600, .inl (fun _ => 0))), (q8, .inl (g.2.1.2.2.1, 64, .inr (.inr (.inl (fun _ => 0))))), (q9, .inl (g.2.1.1, 26, .inl (fun _ => 0))), (q10, .inl (g.2.1.1, 208, .inl (fun _ => 0))), (q11, .inl (g.2.1.1, 12, .inl (fun _ => 0))), (q12, .inl (g.2.1.1, 144, .inl (fun _ => 0))), (q13, .inl (g.2.1.1, 144, .inl (fun _ => 0))), (q14, .inl (g.2.1.1, 12, .inl (fun _ => 0)))] ++ wX11 g a) C 0 fuf_12_60 rfl rfl rfl (Nat.le_of_ble_eq_true rfl) rfl dX12_init_410 ?_
    refine ac_aload_n (pc := 413) C 0 dX12_init_413 rfl rfl ?_
    refine ac_bipush (pc := 414) C dX12_init_414 (by decide) ?_
    refine ac_newa (pc := 416) (atype := .int) (ty := .int) (cA := g.2.1.1) (a0 := (12, .inl (fun _ => 0))) (N' := 12) (cl' := 15) (sl' := 6243) C 0 rfl (Or.inl rfl) ar_int rfl (fun _ => rfl) rfl (Nat.le_of_ble_eq_true rfl) rfl rfl ⟨Nat.le_of_ble_eq_true rfl, Nat.le_of_ble_eq_true rfl⟩ dX12_init_416 (fun q15 => ?_)
    refine ac_perm (ws' := [(h0, .inr (12, [.ref q1, .int 0, .int 0, .ref q2, .int 0, vi (-1), .int 0, .int 0, .int 0, .int 0, .int 0, .int 0, .int 0, .ref q3, .int 0, .int 0, .ref q4, .int 0, .int 0, .ref q5, .ref q6, .int 0, .int 0, .ref q7, .int 0, .int 0, .int 0, .ref q8, .ref q9, .ref q10, .int 0, vi (-1), .int 0, .int 0, .ref q11, .ref q12, .ref q13, .int 0, vi (-1), .ref q14, .null, .null, .null, .null, .int 0, .int 0, .int 0, .long 0])), (q1, .inl (g.2.1.1, 700, .inl (fun _ => 0))), (q2, .inl (g.2.1.1, 41, .inl (wch wordsF 41))), (q3, .inl (g.2.1.1, 48, .inl (fun _ => 0))), (q4, .inl (g.2.1.1, 96, .inl (fun _ => 0))), (q5, .inl (g.2.1.1, 128, .inl (fun _ => 0))), (q6, .inl (g.2.1.1, 8, .inl (wch toldF 8))), (q7, .inl (g.2.1.1, 4600, .inl (fun _ => 0))), (q8, .inl (g.2.1.2.2.1, 64, .inr (.inr (.inl (fun _ => 0))))), (q9, .inl (g.2.1.1, 26, .inl (fun _ => 0))), (q10, .inl (g.2.1.1, 208, .inl (fun _ => 0))), (q11, .inl (g.2.1.1, 12, .inl (fun _ => 0))), (q12, .inl (g.2.1.1, 144, .inl (fun _ => 0))), (q13, .inl (g.2.1.1, 144, .inl (fun _ => 0))), (q14, .inl (g.2.1.1, 12, .inl (fun _ => 0))), (q15, .inl (g.2.1.1, 12, .inl (fun _ => 0)))] ++ wX11 g a) (perm_tail _ _ _) ?_
    refine ac_putF (pc := 418) (ws' := [(h0, .inr (12, [.ref q1, .int 0, .int 0, .ref q2, .int 0, vi (-1), .int 0, .int 0, .int 0, .int 0, .int 0, .int 0, .int 0, .ref q3, .int 0, .int 0, .ref q4, .int 0, .int 0, .ref q5, .ref q6, .int 0, .int 0, .ref q7, .int 0, .int 0, .int 0, .ref q8, .ref q9, .ref q10, .int 0, vi (-1), .int 0, .int 0, .ref q11, .ref q12, .ref q13, .int 0, vi (-1), .ref q14, .ref q15, .null, .null, .null, .int 0, .int 0, .int 0, .long 0])), (q1, .inl (g.2.1.1, 700, .inl (fun _ => 0))), (q2, .inl (g.2.1.1, 41, .inl (wch wordsF 41))), (q3, .inl (g.2.1.1, 48, .inl (fun _ => 0))), (q4, .inl (g.2.1.1, 96, .inl (fun _ => 0))), (q5, .inl (g.2.1.1, 128, .inl (fun _ => 0))), (q6, .inl (g.2.1.1, 8, .inl (wch toldF 8))), (q7, .inl (g.2.1.1, 4600, .inl (fun _ => 0))), (q8, .inl (g.2.1.2.2.1, 64, .inr (.inr (.inl (fun _ => 0))))), (q9, .inl (g.2.1.1, 26, .inl (fun _ => 0))), (q10, .inl (g.2.1.1, 208, .inl (fun _ => 0))), (q11, .inl (g.2.1.1, 12, .inl (fun _ => 0))), (q12, .inl (g.2.1.1, 144, .inl (fun _ => 0))), (q13, .inl (g.2.1.1, 144, .inl (fun _ => 0))), (q14, .inl (g.2.1.1, 12, .inl (fun _ => 0))), (q15, .inl (g.2.1.1, 12, .inl (fun _ => 0)))] ++ wX11 g a) C 0 fuf_12_63 rfl rfl rfl (Nat.le_of_ble_eq_true rfl) rfl dX12_init_418 ?_
    refine ac_aload_n (pc := 421) C 0 dX12_init_421 rfl rfl ?_
    refine ac_sipush (pc := 422) C dX12_init_422 (by decide) ?_
    refine ac_newa (pc := 425) (atype := .int) (ty := .int) (cA := g.2.1.1) (a0 := (156, .inl (fun _ => 0))) (N' := 156) (cl' := 16) (sl' := 6399) C 0 rfl (Or.inl rfl) ar_int rfl (fun _ => rfl) rfl (Nat.le_of_ble_eq_true rfl) rfl rfl ⟨Nat.le_of_ble_eq_true rfl, Nat.le_of_ble_eq_true rfl⟩ dX12_init_425 (fun q16 => ?_)
    refine ac_perm (ws' := [(h0, .inr (12, [.ref q1, .int 0, .int 0, .ref q2, .int 0, vi (-1), .int 0, .int 0, .int 0, .int 0, .int 0, .int 0, .int 0, .ref q3, .int 0, .int 0, .ref q4, .int 0, .int 0, .ref q5, .ref q6, .int 0, .int 0, .ref q7, .int 0, .int 0, .int 0, .ref q8, .ref q9, .ref q10, .int 0, vi (-1), .int 0, .int 0, .ref q11, .ref q12, .ref q13, .int 0, vi (-1), .ref q14, .ref q15, .null, .null, .null, .int 0, .int 0, .int 0, .long 0])), (q1, .inl (g.2.1.1, 700, .inl (fun _ => 0))), (q2, .inl (g.2.1.1, 41, .inl (wch wordsF 41))), (q3, .inl (g.2.1.1, 48, .inl (fun _ => 0))), (q4, .inl (g.2.1.1, 96, .inl (fun _ => 0))), (q5, .inl (g.2.1.1, 128, .inl (fun _ => 0))), (q6, .inl (g.2.1.1, 8, .inl (wch toldF 8))), (q7, .inl (g.2.1.1, 4600, .inl (fun _ => 0))), (q8, .inl (g.2.1.2.2.1, 64, .inr (.inr (.inl (fun _ => 0))))), (q9, .inl (g.2.1.1, 26, .inl (fun _ => 0))), (q10, .inl (g.2.1.1, 208, .inl (fun _ => 0))), (q11, .inl (g.2.1.1, 12, .inl (fun _ => 0))), (q12, .inl (g.2.1.1, 144, .inl (fun _ => 0))), (q13, .inl (g.2.1.1, 144, .inl (fun _ => 0))), (q14, .inl (g.2.1.1, 12, .inl (fun _ => 0))), (q15, .inl (g.2.1.1, 12, .inl (fun _ => 0))), (q16, .inl (g.2.1.1, 156, .inl (fun _ => 0)))] ++ wX11 g a) (perm_tail _ _ _) ?_
    refine ac_putF (pc := 427) (ws' := [(h0, .inr (12, [.ref q1, .int 0, .int 0, .ref q2, .int 0, vi (-1), .int 0, .int 0, .int 0, .int 0, .int 0, .int 0, .int 0, .ref q3, .int 0, .int 0, .ref q4, .int 0, .int 0, .ref q5, .ref q6, .int 0, .int 0, .ref q7, .int 0, .int 0, .int 0, .ref q8, .ref q9, .ref q10, .int 0, vi (-1), .int 0, .int 0, .ref q11, .ref q12, .ref q13, .int 0, vi (-1), .ref q14, .ref q15, .ref q16, .null, .null, .int 0, .int 0, .int 0, .long 0])), (q1, .inl (g.2.1.1, 700, .inl (fun _ => 0))), (q2, .inl (g.2.1.1, 41, .inl (wch wordsF 41))), (q3, .inl (g.2.1.1, 48, .inl (fun _ => 0))), (q4, .inl (g.2.1.1, 96, .inl (fun _ => 0))), (q5, .inl (g.2.1.1, 128, .inl (fun _ => 0))), (q6, .inl (g.2.1.1, 8, .inl (wch toldF 8))), (q7, .inl (g.2.1.1, 4600, .inl (fun _ => 0))), (q8, .inl (g.2.1.2.2.1, 64, .inr (.inr (.inl (fun _ => 0))))), (q9, .inl (g.2.1.1, 26, .inl (fun _ => 0))), (q10, .inl (g.2.1.1, 208, .inl (fun _ => 0))), (q11, .inl (g.2.1.1, 12, .inl (fun _ => 0))), (q12, .inl (g.2.1.1, 144, .inl (fun _ => 0))), (q13, .inl (g.2.1.1, 144, .inl (fun _ => 0))), (q14, .inl (g.2.1.1, 12, .inl (fun _ => 0))), (q15, .inl (g.2.1.1, 12, .inl (fun _ => 0))), (q16, .inl (g.2.1.1, 156, .inl (fun _ => 0)))] ++ wX11 g a) C 0 fuf_12_66 rfl rfl rfl (Nat.le_of_ble_eq_true rfl) rfl dX12_init_427 ?_
    refine ac_aload_n (pc := 430) C 0 dX12_init_430 rfl rfl ?_
    refine ac_bipush (pc := 431) C dX12_init_431 (by decide) ?_
    refine ac_newa (pc := 433) (atype := .int) (ty := .int) (cA := g.2.1.1) (a0 := (64, .inl (fun _ => 0))) (N' := 64) (cl' := 17) (sl' := 6463) C 0 rfl (Or.inl rfl) ar_int rfl (fun _ => rfl) rfl (Nat.le_of_ble_eq_true rfl) rfl rfl ⟨Nat.le_of_ble_eq_true rfl, Nat.le_of_ble_eq_true rfl⟩ dX12_init_433 (fun q17 => ?_)
    refine ac_perm (ws' := [(h0, .inr (12, [.ref q1, .int 0, .int 0, .ref q2, .int 0, vi (-1), .int 0, .int 0, .int 0, .int 0, .int 0, .int 0, .int 0, .ref q3, .int 0, .int 0, .ref q4, .int 0, .int 0, .ref q5, .ref q6, .int 0, .int 0, .ref q7, .int 0, .int 0, .int 0, .ref q8, .ref q9, .ref q10, .int 0, vi (-1), .int 0, .int 0, .ref q11, .ref q12, .ref q13, .int 0, vi (-1), .ref q14, .ref q15, .ref q16, .null, .null, .int 0, .int 0, .int 0, .long 0])), (q1, .inl (g.2.1.1, 700, .inl (fun _ => 0))), (q2, .inl (g.2.1.1, 41, .inl (wch wordsF 41))), (q3, .inl (g.2.1.1, 48, .inl (fun _ => 0))), (q4, .inl (g.2.1.1, 96, .inl (fun _ => 0))), (q5, .inl (g.2.1.1, 128, .inl (fun _ => 0))), (q6, .inl (g.2.1.1, 8, .inl (wch toldF 8))), (q7, .inl (g.2.1.1, 4600, .inl (fun _ => 0))), (q8, .inl (g.2.1.2.2.1, 64, .inr (.inr (.inl (fun _ => 0))))), (q9, .inl (g.2.1.1, 26, .inl (fun _ => 0))), (q10, .inl (g.2.1.1, 208, .inl (fun _ => 0))), (q11, .inl (g.2.1.1, 12, .inl (fun _ => 0))), (q12, .inl (g.2.1.1, 144, .inl (fun _ => 0))), (q13, .inl (g.2.1.1, 144, .inl (fun _ => 0))), (q14, .inl (g.2.1.1, 12, .inl (fun _ => 0))), (q15, .inl (g.2.1.1, 12, .inl (fun _ => 0))), (q16, .inl (g.2.1.1, 156, .inl (fun _ => 0))), (q17, .inl (g.2.1.1, 64, .inl (fun _ => 0)))] ++ wX11 g a) (perm_tail _ _ _) ?_
    refine ac_putF (pc := 435) (ws' := [(h0, .inr (12, [.ref q1, .int 0, .int 0, .ref q2, .int 0, vi (-1), .int 0, .int 0, .int 0, .int 0, .int 0, .int 0, .int 0, .ref q3, .int 0, .int 0, .ref q4, .int 0, .int 0, .ref q5, .ref q6, .int 0, .int 0, .ref q7, .int 0, .int 0, .int 0, .ref q8, .ref q9, .ref q10, .int 0, vi (-1), .int 0, .int 0, .ref q11, .ref q12, .ref q13, .int 0, vi (-1), .ref q14, .ref q15, .ref q16, .ref q17, .null, .int 0, .int 0, .int 0, .long 0])), (q1, .inl (g.2.1.1, 700, .inl (fun _ => 0))), (q2, .inl (g.2.1.1, 41, .inl (wch wordsF 41))), (q3, .inl (g.2.1.1, 48, .inl (fun _ => 0))), (q4, .inl (g.2.1.1, 96, .inl (fun _ => 0))), (q5, .inl (g.2.1.1, 128, .inl (fun _ => 0))), (q6, .inl (g.2.1.1, 8, .inl (wch toldF 8))), (q7, .inl (g.2.1.1, 4600, .inl (fun _ => 0))), (q8, .inl (g.2.1.2.2.1, 64, .inr (.inr (.inl (fun _ => 0))))), (q9, .inl (g.2.1.1, 26, .inl (fun _ => 0))), (q10, .inl (g.2.1.1, 208, .inl (fun _ => 0))), (q11, .inl (g.2.1.1, 12, .inl (fun _ => 0))), (q12, .inl (g.2.1.1, 144, .inl (fun _ => 0))), (q13, .inl (g.2.1.1, 144, .inl (fun _ => 0))), (q14, .inl (g.2.1.1, 12, .inl (fun _ => 0))), (q15, .inl (g.2.1.1, 12, .inl (fun _ => 0))), (q16, .inl (g.2.1.1, 156, .inl (fun _ => 0))), (q17, .inl (g.2.1.1, 64, .inl (fun _ => 0)))] ++ wX11 g a) C 0 fuf_12_69 rfl rfl rfl (Nat.le_of_ble_eq_true rfl) rfl dX12_init_435 ?_
    refine ac_aload_n (pc := 438) C 0 dX12_init_438 rfl rfl ?_
    refine ac_bipush (pc := 439) C dX12_init_439 (by decide) ?_
    refine ac_newa (pc := 441) (atype := .int) (ty := .int) (cA := g.2.1.1) (a0 := (8, .inl (fun _ => 0))) (N' := 8) (cl' := 18) (sl' := 6471) C 0 rfl (Or.inl rfl) ar_int rfl (fun _ => rfl) rfl (Nat.le_of_ble_eq_true rfl) rfl rfl ⟨Nat.le_of_ble_eq_true rfl, Nat.le_of_ble_eq_true rfl⟩ dX12_init_441 (fun q18 => ?_)
    refine ac_perm (ws' := [(h0, .inr (12, [.ref q1, .int 0, .int 0, .ref q2, .int 0, vi (-1), .int 0, .int 0, .int 0, .int 0, .int 0, .int 0, .int 0, .ref q3, .int 0, .int 0, .ref q4, .int 0, .int 0, .ref q5, .ref q6, .int 0, .int 0, .ref q7, .int 0, .int 0, .int 0, .ref q8, .ref q9, .ref q10, .int 0, vi (-1), .int 0, .int 0, .ref q11, .ref q12, .ref q13, .int 0, vi (-1), .ref q14, .ref q15, .ref q16, .ref q17, .null, .int 0, .int 0, .int 0, .long 0])), (q1, .inl (g.2.1.1, 700, .inl (fun _ => 0))), (q2, .inl (g.2.1.1, 41, .inl (wch wordsF 41))), (q3, .inl (g.2.1.1, 48, .inl (fun _ => 0))), (q4, .inl (g.2.1.1, 96, .inl (fun _ => 0))), (q5, .inl (g.2.1.1, 128, .inl (fun _ => 0))), (q6, .inl (g.2.1.1, 8, .inl (wch toldF 8))), (q7, .inl (g.2.1.1, 4600, .inl (fun _ => 0))), (q8, .inl (g.2.1.2.2.1, 64, .inr (.inr (.inl (fun _ => 0))))), (q9, .inl (g.2.1.1, 26, .inl (fun _ => 0))), (q10, .inl (g.2.1.1, 208, .inl (fun _ => 0))), (q11, .inl (g.2.1.1, 12, .inl (fun _ => 0))), (q12, .inl (g.2.1.1, 144, .inl (fun _ => 0))), (q13, .inl (g.2.1.1, 144, .inl (fun _ => 0))), (q14, .inl (g.2.1.1, 12, .inl (fun _ => 0))), (q15, .inl (g.2.1.1, 12, .inl (fun _ => 0))), (q16, .inl (g.2.1.1, 156, .inl (fun _ => 0))), (q17, .inl (g.2.1.1, 64, .inl (fun _ => 0))), (q18, .inl (g.2.1.1, 8, .inl (fun _ => 0)))] ++ wX11 g a) (perm_tail _ _ _) ?_
    refine ac_putF (pc := 443) (ws' := [(h0, .inr (12, [.ref q1, .int 0, .int 0, .ref q2, .int 0, vi (-1), .int 0, .int 0, .int 0, .int 0, .int 0, .int 0, .int 0, .ref q3, .int 0, .int 0, .ref q4, .int 0, .int 0, .ref q5, .ref q6, .int 0, .int 0, .ref q7, .int 0, .int 0, .int 0, .ref q8, .ref q9, .ref q10, .int 0, vi (-1), .int 0, .int 0, .ref q11, .ref q12, .ref q13, .int 0, vi (-1), .ref q14, .ref q15, .ref q16, .ref q17, .ref q18, .int 0, .int 0, .int 0, .long 0])), (q1, .inl (g.2.1.1, 700, .inl (fun _ => 0))), (q2, .inl (g.2.1.1, 41, .inl (wch wordsF 41))), (q3, .inl (g.2.1.1, 48, .inl (fun _ => 0))), (q4, .inl (g.2.1.1, 96, .inl (fun _ => 0))), (q5, .inl (g.2.1.1, 128, .inl (fun _ => 0))), (q6, .inl (g.2.1.1, 8, .inl (wch toldF 8))), (q7, .inl (g.2.1.1, 4600, .inl (fun _ => 0))), (q8, .inl (g.2.1.2.2.1, 64, .inr (.inr (.inl (fun _ => 0))))), (q9, .inl (g.2.1.1, 26, .inl (fun _ => 0))), (q10, .inl (g.2.1.1, 208, .inl (fun _ => 0))), (q11, .inl (g.2.1.1, 12, .inl (fun _ => 0))), (q12, .inl (g.2.1.1, 144, .inl (fun _ => 0))), (q13, .inl (g.2.1.1, 144, .inl (fun _ => 0))), (q14, .inl (g.2.1.1, 12, .inl (fun _ => 0))), (q15, .inl (g.2.1.1, 12, .inl (fun _ => 0))), (q16, .inl (g.2.1.1, 156, .inl (fun _ => 0))), (q17, .inl (g.2.1.1, 64, .inl (fun _ => 0))), (q18, .inl (g.2.1.1, 8, .inl (fun _ => 0)))] ++ wX11 g a) C 0 fuf_12_72 rfl rfl rfl (Nat.le_of_ble_eq_true rfl) rfl dX12_init_443 ?_
    intro H locs ls hP hD hS hl
    have hat := at12 g a h0 q1 q2 q3 q4 q5 q6 q7 q8 q9 q10 q11 q12 q13 q14 q15 q16 q17 q18
    have hD1 : va_D (va_A (w012 g a h0) s.heap.size) (m12 g h0 q1 q2 q3 q4 q5 q6 q7 q8 q9 q10 q11 q12 q13 q14 q15 q16 q17 q18 ++ wX11 g a) := hD
    have hP0 : va_P g.1 vwCl (m12 g h0 q1 q2 q3 q4 q5 q6 q7 q8 q9 q10 q11 q12 q13 q14 q15 q16 q17 q18 ++ wX11 g a) H := hP
    obtain ⟨g', hg'⟩ : ∃ g' : Geo, g' = g12 g a h0 q1 q2 q3 q4 q5 q6 q7 q8 q9 q10 q11 q12 q13 q14 q15 q16 q17 q18 := ⟨_, rfl⟩
    rw [← hg'] at hat
    have f1 : g'.1 = g.1 := by rw [hg']
    have f2 : g'.2.1 = g.2.1 := by rw [hg']
    have f94 : g'.2.2 94 = h0 := by rw [hg']; rfl
    have f2h : g'.2.2 200 = g.2.2 200 := by rw [hg']; rfl
    have fnp : npo g' = 113 := by rw [hg']; rfl
    have fk : ∀ k, k < 94 → g'.2.2 k = a k := by
      intro k hk
      rw [hg']
      match k, hk with
      | 0, _ => rfl
      | 1, _ => rfl
      | 2, _ => rfl
      | 3, _ => rfl
      | 4, _ => rfl
      | 5, _ => rfl
      | 6, _ => rfl
      | 7, _ => rfl
      | 8, _ => rfl
      | 9, _ => rfl
      | 10, _ => rfl
      | 11, _ => rfl
      | 12, _ => rfl
      | 13, _ => rfl
      | 14, _ => rfl
      | 15, _ => rfl
      | 16, _ => rfl
      | 17, _ => rfl
      | 18, _ => rfl
      | 19, _ => rfl
      | 20, _ => rfl
      | 21, _ => rfl
      | 22, _ => rfl
      | 23, _ => rfl
      | 24, _ => rfl
      | 25, _ => rfl
      | 26, _ => rfl
      | 27, _ => rfl
      | 28, _ => rfl
      | 29, _ => rfl
      | 30, _ => rfl
      | 31, _ => rfl
      | 32, _ => rfl
      | 33, _ => rfl
      | 34, _ => rfl
      | 35, _ => rfl
      | 36, _ => rfl
      | 37, _ => rfl
      | 38, _ => rfl
      | 39, _ => rfl
      | 40, _ => rfl
      | 41, _ => rfl
      | 42, _ => rfl
      | 43, _ => rfl
      | 44, _ => rfl
      | 45, _ => rfl
      | 46, _ => rfl
      | 47, _ => rfl
      | 48, _ => rfl
      | 49, _ => rfl
      | 50, _ => rfl
      | 51, _ => rfl
      | 52, _ => rfl
      | 53, _ => rfl
      | 54, _ => rfl
      | 55, _ => rfl
      | 56, _ => rfl
      | 57, _ => rfl
      | 58, _ => rfl
      | 59, _ => rfl
      | 60, _ => rfl
      | 61, _ => rfl
      | 62, _ => rfl
      | 63, _ => rfl
      | 64, _ => rfl
      | 65, _ => rfl
      | 66, _ => rfl
      | 67, _ => rfl
      | 68, _ => rfl
      | 69, _ => rfl
      | 70, _ => rfl
      | 71, _ => rfl
      | 72, _ => rfl
      | 73, _ => rfl
      | 74, _ => rfl
      | 75, _ => rfl
      | 76, _ => rfl
      | 77, _ => rfl
      | 78, _ => rfl
      | 79, _ => rfl
      | 80, _ => rfl
      | 81, _ => rfl
      | 82, _ => rfl
      | 83, _ => rfl
      | 84, _ => rfl
      | 85, _ => rfl
      | 86, _ => rfl
      | 87, _ => rfl
      | 88, _ => rfl
      | 89, _ => rfl
      | 90, _ => rfl
      | 91, _ => rfl
      | 92, _ => rfl
      | 93, _ => rfl
      | k + 94, hk => exact absurd hk (by omega)
    have hI : Inj g' := by
      refine ⟨by omega, fun i j hi hj e0 => ?_⟩
      have z := hD1.1 (pidx i) (pidx j) _ _ (hat i (by omega)) (hat j (by omega)) e0
      simp only [pidx] at z
      split at z <;> split at z <;> omega
    have hP' : va_P g'.1 vwCl (wd g' st0) H := by
      rw [f1]
      apply va_P_mem.mpr
      intro q hq
      obtain ⟨k, hk, rfl⟩ := List.mem_map.mp hq
      have hk := List.mem_range.mp hk
      exact hP0 _ _ (hat k (by omega))
    have hAA : AA g' s.heap.size = va_A (w012 g a h0) s.heap.size := by
      funext q
      apply propext
      constructor
      · rintro (⟨k, hk, rfl⟩ | h)
        · exact hD1.2 _ _ (hat k (by omega))
        · exact Or.inr h
      · rintro (⟨k, e0, h⟩ | h)
        · cases k with
          | zero =>
            cases h
            exact Or.inl ⟨94, by omega, f94.symm⟩
          | succ i =>
            have h : (wX11 g a)[i]? = some (q, e0) := h
            have hi : i < 94 := (List.getElem?_eq_some_iff.mp h).1
            have h2 := hat i (by omega)
            rw [show pidx i = i + 19 from if_pos hi] at h2
            have h3 : (wX11 g a)[i]? = some (g'.2.2 i, cellE g' st0 i) := by
              rw [← h2]
              exact (List.getElem?_append_right (l₁ := m12 g h0 q1 q2 q3 q4 q5 q6 q7 q8 q9 q10 q11 q12 q13 q14 q15 q16 q17 q18) (i := i + 19) (Nat.le_add_left 19 i)).symm ▸ by rfl
            have h4 := h.symm.trans h3
            exact Or.inl ⟨i, by omega, congrArg (fun z => z.1) (Option.some.inj h4)⟩
        · exact Or.inr h
    have hK' : va_K g'.1 vwCl (tysG g') s := by rw [hg']; exact hK
    have hL' : LWF g' (AA g' s.heap.size) s s.heap := by
      rw [hAA]
      unfold LWF
      rw [f2h]
      exact hLW
    have C' : Cx p rn_X12 s m ([Value.ref h0] : List Value).toArray c 18 6471 cX12_init RX12 1 g' := ⟨B.exec, B.bytes, hml, hown, hts', hK', hI, hL', Nat.le_refl _, Nat.le_refl _⟩
    have K2 : At p l e rn_X12 s m ([Value.ref h0] : List Value).toArray below meth c 18 6471 g' 1 (MQ below (Q12 g a h0 s.heap.size σ2) ([Value.ref h0] : List Value).toArray s 18 6471 (va_A (w012 g a h0) s.heap.size)) 446 [(0, vr g' 94)] [] st0 := by
      refine at_aload_n (pc := 446) C' 0 dX12_init_446 rfl rfl ?_
      refine at_callVv (pc := 447) (ci := 12) C' (c_X12_plain l g' N st0 σ1 ok0 hF1) kv_X12_plain wm_75 kd94 rfl rfl rfl rfl (Nat.le_of_ble_eq_true rfl) ⟨rfl, rfl, Nat.le_of_ble_eq_true rfl, Nat.le_of_ble_eq_true rfl⟩ dX12_init_447 (fun ok1 => ?_)
      refine at_aload_n (pc := 450) C' 0 dX12_init_450 rfl rfl ?_
      refine at_callVv (pc := 451) (ci := 12) C' (c_X12_keepText l g' N σ1 σ2 ok1 hF2) kv_X12_keepText wm_78 kd94 rfl rfl rfl rfl (Nat.le_of_ble_eq_true rfl) ⟨rfl, rfl, Nat.le_of_ble_eq_true rfl, Nat.le_of_ble_eq_true rfl⟩ dX12_init_451 (fun ok2 => ?_)
      intro H locs ls hP hS hl
      rw [hAA] at hS
      exact W.vret C'.1 C'.2.1 hr (fun t ht hW => ⟨⟨g', rfl, ⟨f1, f2, fk, f94, f2h, fnp, hI, ok2⟩, by show va_P g'.1 vwCl (wd g' σ2) t.heap; rw [ht]; exact hP⟩, hS.F ht⟩) hS.2.2 dX12_init_454 hlk
    exact K2 H locs ls hP' (by rw [hAA]; exact hS) (by rw [show vr g' 94 = Value.ref h0 from congrArg Value.ref f94]; exact hl)
  exact K s.heap [] _ hP (va_D.self hD0) va_S.rf hl
