/-! THE MODEL'S CONSTRUCTOR -/
theorem va_P_mem {D : va_G} {cls : List vw_C} {ws : va_W} {H : Heap} : va_P D cls ws H ↔ ∀ q ∈ ws, va_at D cls q H := by
  constructor
  · intro h q hq
    obtain ⟨k, hk⟩ := List.getElem?_of_mem hq
    exact h k q hk
  · intro h k q hk
    exact h q (List.mem_of_getElem? hk)
theorem va_D_iff {A : Nat → Prop} {ws : va_W} : va_D A ws ↔ (ws.map Prod.fst).Nodup ∧ ∀ q ∈ ws, A q.1 := by
  constructor
  · intro h
    refine ⟨?_, fun q hq => ?_⟩
    · rw [List.nodup_iff_pairwise_ne, List.pairwise_iff_getElem]
      intro i j hi hj hij
      rw [List.length_map] at hi hj
      rw [List.getElem_map, List.getElem_map]
      intro z
      have := h.1 i j _ _ (List.getElem?_eq_getElem hi) (List.getElem?_eq_getElem hj) z
      omega
    · obtain ⟨k, hk⟩ := List.getElem?_of_mem hq
      exact h.2 k q hk
  · intro h
    refine ⟨fun i j p q hi hj e => ?_, fun k q hk => h.2 q (List.mem_of_getElem? hk)⟩
    have h1 := h.1
    rw [List.nodup_iff_pairwise_ne, List.pairwise_iff_getElem] at h1
    obtain ⟨i1, i2⟩ := List.getElem?_eq_some_iff.mp hi
    obtain ⟨j1, j2⟩ := List.getElem?_eq_some_iff.mp hj
    rcases Nat.lt_trichotomy i j with z | z | z
    · exact absurd (by rw [List.getElem_map, List.getElem_map, i2, j2]; exact e) (h1 i j (by rw [List.length_map]; exact i1) (by rw [List.length_map]; exact j1) z)
    · exact z
    · exact absurd (by rw [List.getElem_map, List.getElem_map, i2, j2]; exact e.symm) (h1 j i (by rw [List.length_map]; exact j1) (by rw [List.length_map]; exact i1) z)
theorem va_P_perm {D : va_G} {cls : List vw_C} {ws ws' : va_W} {H : Heap} (h : ws.Perm ws') (hP : va_P D cls ws H) : va_P D cls ws' H := va_P_mem.mpr (fun q hq => va_P_mem.mp hP q (h.mem_iff.mpr hq))
theorem va_D_perm {A : Nat → Prop} {ws ws' : va_W} (h : ws.Perm ws') (hD : va_D A ws) : va_D A ws' := by
  obtain ⟨h1, h2⟩ := va_D_iff.mp hD
  exact va_D_iff.mpr ⟨(h.map Prod.fst).nodup_iff.mp h1, fun q hq => h2 q (h.mem_iff.mpr hq)⟩
section MCT
variable {p : Program} {l : Launch} {e : Env} {R : Room} {s : State} {m : MethodId} {args : Array Value} {below : List Frame} {meth : Method} {c : Code} {cl sl : Nat} {g : Geo} {A : Nat → Prop} {nL : Nat} {Q : State → Prop} {cc : ByteArray} {own : String} {pc : Nat} {lv : List (Nat × Value)} {st : List Value} {ws : va_W}
theorem ac_perm {ws' : va_W} (h : ws.Perm ws') (kk : AtC p l e R s m args below meth c g A nL Q cl sl pc lv st ws') : AtC p l e R s m args below meth c g A nL Q cl sl pc lv st ws := fun H locs ls hP hD hS hl => kk H locs ls (va_P_perm h hP) (va_D_perm h hD) hS hl
end MCT
theorem perm_tail {α : Type} (W X : List α) (n : α) : ((W ++ X) ++ [n]).Perm ((W ++ [n]) ++ X) := by
  rw [List.append_assoc, List.append_assoc]
  exact List.Perm.append_left W List.perm_append_comm
def wordsF (j : Int) : Int := ([109, 101, 109, 98, 101, 114, 32, 111, 119, 110, 115, 32, 112, 101, 114, 105, 111, 100, 32, 103, 97, 116, 101, 32, 112, 114, 105, 99, 101, 32, 99, 97, 114, 114, 121, 32, 115, 101, 101, 100, 32] : List Int).getD j.toNat 0
def toldF (j : Int) : Int := ([75, 0, 0, 0, 75, 0, 0, 0] : List Int).getD j.toNat 0
def wch (F : Int → Int) : Nat → (Nat → Int32)
  | 0 => fun _ => 0
  | n + 1 => upd (wch F n) n (Int32.ofInt (F n))
theorem wch_eq (F : Int → Int) : ∀ (n j : Nat), wch F n j = if j < n then Int32.ofInt (F j) else 0 := by
  intro n
  induction n with
  | zero => intro j; rfl
  | succ n ih =>
    intro j
    show (if j = n then Int32.ofInt (F n) else wch F n j) = _
    rw [ih j]
    by_cases h : j = n
    · subst h
      rw [if_pos rfl, if_pos (by omega)]
    · rw [if_neg h]
      by_cases z : j < n
      · rw [if_pos z, if_pos (by omega)]
      · rw [if_neg z, if_neg (by omega)]
theorem wch_all {F : Int → Int} {n : Nat} (h : ∀ j : Nat, n ≤ j → F j = 0) : wch F n = fun j : Nat => Int32.ofInt (F j) := by
  funext j
  rw [wch_eq]
  by_cases z : j < n
  · rw [if_pos z]
  · rw [if_neg z, h j (by omega)]; rfl
def st0 : Sto := (fun k j => if k = 3 ∧ j = 10 then 75 else if k = 16 ∧ j = 10 then 75 else if k = 1 ∧ j = 10 then -1 else if k = 0 ∧ j = 1 then 3 else if k = 0 ∧ j = 2 then 16 else if k = 94 ∧ (j = 5 ∨ j = 31 ∨ j = 38) then -1 else if k = 96 then wordsF j else if k = 100 then toldF j else 0, fun _ _ => 0)

theorem cz0 (g : Geo) : cellE g st0 0 = .inr (11, [.ref (g.2.2 1), .ref (g.2.2 3), .ref (g.2.2 16), .ref (g.2.2 29), .ref (g.2.2 33), .ref (g.2.2 35), .ref (g.2.2 46), .ref (g.2.2 52), .ref (g.2.2 55), .ref (g.2.2 58), .ref (g.2.2 68), .ref (g.2.2 73), .ref (g.2.2 77), .ref (g.2.2 80), .ref (g.2.2 83), .ref (g.2.2 93), vi 0, vi 0]) := rfl
theorem cz1 (g : Geo) : cellE g st0 1 = .inr (8, [.ref (g.2.2 2), vi 0, vi 0, vi 0, vi 0, vi 0, vi 0, vi 0, vi 0, vi 0, vi (-1)]) := rfl
theorem cz2 (g : Geo) : cellE g st0 2 = .inl (g.2.1.2.1, 700, .inl (fun _ => 0)) := rfl
theorem cz3 (g : Geo) : cellE g st0 3 = .inr (0, [.ref (g.2.2 4), .ref (g.2.2 5), .ref (g.2.2 6), .ref (g.2.2 7), .ref (g.2.2 8), .ref (g.2.2 9), .ref (g.2.2 10), .ref (g.2.2 11), vi 0, vi 0, vi 75, vi 0, vi 0, vi 0]) := rfl
theorem cz4 (g : Geo) : cellE g st0 4 = .inl (g.2.1.1, 8, .inl (fun _ => 0)) := rfl
theorem cz5 (g : Geo) : cellE g st0 5 = .inl (g.2.1.1, 8, .inl (fun _ => 0)) := rfl
theorem cz6 (g : Geo) : cellE g st0 6 = .inl (g.2.1.1, 8, .inl (fun _ => 0)) := rfl
theorem cz7 (g : Geo) : cellE g st0 7 = .inl (g.2.1.1, 12, .inl (fun _ => 0)) := rfl
theorem cz8 (g : Geo) : cellE g st0 8 = .inl (g.2.1.1, 12, .inl (fun _ => 0)) := rfl
theorem cz9 (g : Geo) : cellE g st0 9 = .inl (g.2.1.1, 12, .inl (fun _ => 0)) := rfl
theorem cz10 (g : Geo) : cellE g st0 10 = .inl (g.2.1.1, 12, .inl (fun _ => 0)) := rfl
theorem cz11 (g : Geo) : cellE g st0 11 = .inr (7, [.ref (g.2.2 12), .ref (g.2.2 13), .ref (g.2.2 14), .ref (g.2.2 15), vi 0]) := rfl
theorem cz12 (g : Geo) : cellE g st0 12 = .inl (g.2.1.1, 24, .inl (fun _ => 0)) := rfl
theorem cz13 (g : Geo) : cellE g st0 13 = .inl (g.2.1.1, 24, .inl (fun _ => 0)) := rfl
theorem cz14 (g : Geo) : cellE g st0 14 = .inl (g.2.1.1, 24, .inl (fun _ => 0)) := rfl
theorem cz15 (g : Geo) : cellE g st0 15 = .inl (g.2.1.1, 24, .inl (fun _ => 0)) := rfl
theorem cz16 (g : Geo) : cellE g st0 16 = .inr (0, [.ref (g.2.2 17), .ref (g.2.2 18), .ref (g.2.2 19), .ref (g.2.2 20), .ref (g.2.2 21), .ref (g.2.2 22), .ref (g.2.2 23), .ref (g.2.2 24), vi 0, vi 0, vi 75, vi 0, vi 0, vi 0]) := rfl
theorem cz17 (g : Geo) : cellE g st0 17 = .inl (g.2.1.1, 8, .inl (fun _ => 0)) := rfl
theorem cz18 (g : Geo) : cellE g st0 18 = .inl (g.2.1.1, 8, .inl (fun _ => 0)) := rfl
theorem cz19 (g : Geo) : cellE g st0 19 = .inl (g.2.1.1, 8, .inl (fun _ => 0)) := rfl
theorem cz20 (g : Geo) : cellE g st0 20 = .inl (g.2.1.1, 12, .inl (fun _ => 0)) := rfl
theorem cz21 (g : Geo) : cellE g st0 21 = .inl (g.2.1.1, 12, .inl (fun _ => 0)) := rfl
theorem cz22 (g : Geo) : cellE g st0 22 = .inl (g.2.1.1, 12, .inl (fun _ => 0)) := rfl
theorem cz23 (g : Geo) : cellE g st0 23 = .inl (g.2.1.1, 12, .inl (fun _ => 0)) := rfl
theorem cz24 (g : Geo) : cellE g st0 24 = .inr (7, [.ref (g.2.2 25), .ref (g.2.2 26), .ref (g.2.2 27), .ref (g.2.2 28), vi 0]) := rfl
theorem cz25 (g : Geo) : cellE g st0 25 = .inl (g.2.1.1, 24, .inl (fun _ => 0)) := rfl
theorem cz26 (g : Geo) : cellE g st0 26 = .inl (g.2.1.1, 24, .inl (fun _ => 0)) := rfl
theorem cz27 (g : Geo) : cellE g st0 27 = .inl (g.2.1.1, 24, .inl (fun _ => 0)) := rfl
theorem cz28 (g : Geo) : cellE g st0 28 = .inl (g.2.1.1, 24, .inl (fun _ => 0)) := rfl
theorem cz29 (g : Geo) : cellE g st0 29 = .inr (5, [.ref (g.2.2 30), .ref (g.2.2 31), .ref (g.2.2 32), vi 0]) := rfl
theorem cz30 (g : Geo) : cellE g st0 30 = .inl (g.2.1.1, 30, .inl (fun _ => 0)) := rfl
theorem cz31 (g : Geo) : cellE g st0 31 = .inl (g.2.1.1, 30, .inl (fun _ => 0)) := rfl
theorem cz32 (g : Geo) : cellE g st0 32 = .inl (g.2.1.1, 30, .inl (fun _ => 0)) := rfl
theorem cz33 (g : Geo) : cellE g st0 33 = .inr (2, [.ref (g.2.2 34), vi 0]) := rfl
theorem cz34 (g : Geo) : cellE g st0 34 = .inl (g.2.1.1, 100, .inl (fun _ => 0)) := rfl
theorem cz35 (g : Geo) : cellE g st0 35 = .inr (3, [.ref (g.2.2 36), .ref (g.2.2 40), .ref (g.2.2 45), vi 0]) := rfl
theorem cz36 (g : Geo) : cellE g st0 36 = .inr (5, [.ref (g.2.2 37), .ref (g.2.2 38), .ref (g.2.2 39), vi 0]) := rfl
theorem cz37 (g : Geo) : cellE g st0 37 = .inl (g.2.1.1, 30, .inl (fun _ => 0)) := rfl
theorem cz38 (g : Geo) : cellE g st0 38 = .inl (g.2.1.1, 30, .inl (fun _ => 0)) := rfl
theorem cz39 (g : Geo) : cellE g st0 39 = .inl (g.2.1.1, 30, .inl (fun _ => 0)) := rfl
theorem cz40 (g : Geo) : cellE g st0 40 = .inr (7, [.ref (g.2.2 41), .ref (g.2.2 42), .ref (g.2.2 43), .ref (g.2.2 44), vi 0]) := rfl
theorem cz41 (g : Geo) : cellE g st0 41 = .inl (g.2.1.1, 24, .inl (fun _ => 0)) := rfl
theorem cz42 (g : Geo) : cellE g st0 42 = .inl (g.2.1.1, 24, .inl (fun _ => 0)) := rfl
theorem cz43 (g : Geo) : cellE g st0 43 = .inl (g.2.1.1, 24, .inl (fun _ => 0)) := rfl
theorem cz44 (g : Geo) : cellE g st0 44 = .inl (g.2.1.1, 24, .inl (fun _ => 0)) := rfl
theorem cz45 (g : Geo) : cellE g st0 45 = .inl (g.2.1.1, 12, .inl (fun _ => 0)) := rfl
theorem cz46 (g : Geo) : cellE g st0 46 = .inr (10, [.ref (g.2.2 47), .ref (g.2.2 48), .ref (g.2.2 49), .ref (g.2.2 50), .ref (g.2.2 51), vi 0]) := rfl
theorem cz47 (g : Geo) : cellE g st0 47 = .inl (g.2.1.1, 64, .inl (fun _ => 0)) := rfl
theorem cz48 (g : Geo) : cellE g st0 48 = .inl (g.2.1.1, 64, .inl (fun _ => 0)) := rfl
theorem cz49 (g : Geo) : cellE g st0 49 = .inl (g.2.1.2.2.1, 64, .inr (.inr (.inl (fun _ => 0)))) := rfl
theorem cz50 (g : Geo) : cellE g st0 50 = .inl (g.2.1.1, 8, .inl (fun _ => 0)) := rfl
theorem cz51 (g : Geo) : cellE g st0 51 = .inl (g.2.1.1, 8, .inl (fun _ => 0)) := rfl
theorem cz52 (g : Geo) : cellE g st0 52 = .inr (4, [.ref (g.2.2 53), .ref (g.2.2 54), vi 0]) := rfl
theorem cz53 (g : Geo) : cellE g st0 53 = .inl (g.2.1.1, 25, .inl (fun _ => 0)) := rfl
theorem cz54 (g : Geo) : cellE g st0 54 = .inl (g.2.1.1, 200, .inl (fun _ => 0)) := rfl
theorem cz55 (g : Geo) : cellE g st0 55 = .inr (6, [.ref (g.2.2 56), .ref (g.2.2 57)]) := rfl
theorem cz56 (g : Geo) : cellE g st0 56 = .inl (g.2.1.1, 144, .inl (fun _ => 0)) := rfl
theorem cz57 (g : Geo) : cellE g st0 57 = .inl (g.2.1.1, 144, .inl (fun _ => 0)) := rfl
theorem cz58 (g : Geo) : cellE g st0 58 = .inr (1, [.ref (g.2.2 59), .ref (g.2.2 60), .ref (g.2.2 61), .ref (g.2.2 62), .ref (g.2.2 63), .ref (g.2.2 64), .ref (g.2.2 65), .ref (g.2.2 66), .ref (g.2.2 67), vi 0, vi 0, vi 0, vi 0, vi 0]) := rfl
theorem cz59 (g : Geo) : cellE g st0 59 = .inl (g.2.1.1, 12, .inl (fun _ => 0)) := rfl
theorem cz60 (g : Geo) : cellE g st0 60 = .inl (g.2.1.1, 12, .inl (fun _ => 0)) := rfl
theorem cz61 (g : Geo) : cellE g st0 61 = .inl (g.2.1.1, 144, .inl (fun _ => 0)) := rfl
theorem cz62 (g : Geo) : cellE g st0 62 = .inl (g.2.1.1, 144, .inl (fun _ => 0)) := rfl
theorem cz63 (g : Geo) : cellE g st0 63 = .inl (g.2.1.1, 144, .inl (fun _ => 0)) := rfl
theorem cz64 (g : Geo) : cellE g st0 64 = .inl (g.2.1.1, 12, .inl (fun _ => 0)) := rfl
theorem cz65 (g : Geo) : cellE g st0 65 = .inl (g.2.1.1, 12, .inl (fun _ => 0)) := rfl
theorem cz66 (g : Geo) : cellE g st0 66 = .inl (g.2.1.1, 12, .inl (fun _ => 0)) := rfl
theorem cz67 (g : Geo) : cellE g st0 67 = .inl (g.2.1.1, 12, .inl (fun _ => 0)) := rfl
theorem cz68 (g : Geo) : cellE g st0 68 = .inr (9, [.ref (g.2.2 69), .ref (g.2.2 70), .ref (g.2.2 71), .ref (g.2.2 72), vi 0]) := rfl
theorem cz69 (g : Geo) : cellE g st0 69 = .inl (g.2.1.1, 8, .inl (fun _ => 0)) := rfl
theorem cz70 (g : Geo) : cellE g st0 70 = .inl (g.2.1.1, 8, .inl (fun _ => 0)) := rfl
theorem cz71 (g : Geo) : cellE g st0 71 = .inl (g.2.1.1, 8, .inl (fun _ => 0)) := rfl
theorem cz72 (g : Geo) : cellE g st0 72 = .inl (g.2.1.1, 8, .inl (fun _ => 0)) := rfl
theorem cz73 (g : Geo) : cellE g st0 73 = .inr (5, [.ref (g.2.2 74), .ref (g.2.2 75), .ref (g.2.2 76), vi 0]) := rfl
theorem cz74 (g : Geo) : cellE g st0 74 = .inl (g.2.1.1, 30, .inl (fun _ => 0)) := rfl
theorem cz75 (g : Geo) : cellE g st0 75 = .inl (g.2.1.1, 30, .inl (fun _ => 0)) := rfl
theorem cz76 (g : Geo) : cellE g st0 76 = .inl (g.2.1.1, 30, .inl (fun _ => 0)) := rfl
theorem cz77 (g : Geo) : cellE g st0 77 = .inr (4, [.ref (g.2.2 78), .ref (g.2.2 79), vi 0]) := rfl
theorem cz78 (g : Geo) : cellE g st0 78 = .inl (g.2.1.1, 25, .inl (fun _ => 0)) := rfl
theorem cz79 (g : Geo) : cellE g st0 79 = .inl (g.2.1.1, 200, .inl (fun _ => 0)) := rfl
theorem cz80 (g : Geo) : cellE g st0 80 = .inr (6, [.ref (g.2.2 81), .ref (g.2.2 82)]) := rfl
theorem cz81 (g : Geo) : cellE g st0 81 = .inl (g.2.1.1, 144, .inl (fun _ => 0)) := rfl
theorem cz82 (g : Geo) : cellE g st0 82 = .inl (g.2.1.1, 144, .inl (fun _ => 0)) := rfl
theorem cz83 (g : Geo) : cellE g st0 83 = .inr (1, [.ref (g.2.2 84), .ref (g.2.2 85), .ref (g.2.2 86), .ref (g.2.2 87), .ref (g.2.2 88), .ref (g.2.2 89), .ref (g.2.2 90), .ref (g.2.2 91), .ref (g.2.2 92), vi 0, vi 0, vi 0, vi 0, vi 0]) := rfl
theorem cz84 (g : Geo) : cellE g st0 84 = .inl (g.2.1.1, 12, .inl (fun _ => 0)) := rfl
theorem cz85 (g : Geo) : cellE g st0 85 = .inl (g.2.1.1, 12, .inl (fun _ => 0)) := rfl
theorem cz86 (g : Geo) : cellE g st0 86 = .inl (g.2.1.1, 144, .inl (fun _ => 0)) := rfl
theorem cz87 (g : Geo) : cellE g st0 87 = .inl (g.2.1.1, 144, .inl (fun _ => 0)) := rfl
theorem cz88 (g : Geo) : cellE g st0 88 = .inl (g.2.1.1, 144, .inl (fun _ => 0)) := rfl
theorem cz89 (g : Geo) : cellE g st0 89 = .inl (g.2.1.1, 12, .inl (fun _ => 0)) := rfl
theorem cz90 (g : Geo) : cellE g st0 90 = .inl (g.2.1.1, 12, .inl (fun _ => 0)) := rfl
theorem cz91 (g : Geo) : cellE g st0 91 = .inl (g.2.1.1, 12, .inl (fun _ => 0)) := rfl
theorem cz92 (g : Geo) : cellE g st0 92 = .inl (g.2.1.1, 12, .inl (fun _ => 0)) := rfl
theorem cz93 (g : Geo) : cellE g st0 93 = .inl (g.2.1.1, 12, .inl (fun _ => 0)) := rfl
theorem cz94 (g : Geo) : cellE g st0 94 = .inr (12, [.ref (g.2.2 95), vi 0, vi 0, .ref (g.2.2 96), vi 0, vi (-1), vi 0, vi 0, vi 0, vi 0, vi 0, vi 0, vi 0, .ref (g.2.2 97), vi 0, vi 0, .ref (g.2.2 98), vi 0, vi 0, .ref (g.2.2 99), .ref (g.2.2 100), vi 0, vi 0, .ref (g.2.2 101), vi 0, vi 0, vi 0, .ref (g.2.2 102), .ref (g.2.2 103), .ref (g.2.2 104), vi 0, vi (-1), vi 0, vi 0, .ref (g.2.2 105), .ref (g.2.2 106), .ref (g.2.2 107), vi 0, vi (-1), .ref (g.2.2 108), .ref (g.2.2 109), .ref (g.2.2 110), .ref (g.2.2 111), .ref (g.2.2 112), vi 0, vi 0, vi 0, .long 0]) := rfl
theorem cz95 (g : Geo) : cellE g st0 95 = .inl (g.2.1.1, 700, .inl (fun _ => 0)) := rfl
theorem cz96 (g : Geo) : cellE g st0 96 = .inl (g.2.1.1, 41, .inl (wch wordsF 41)) := by
  rw [cell_i kd96, wch_all (F := wordsF) (n := 41) (fun j hj => by unfold wordsF; rw [List.getD_eq_getElem?_getD, List.getElem?_eq_none (by rw [Int.toNat_natCast]; exact hj)]; rfl)]; rfl
theorem cz97 (g : Geo) : cellE g st0 97 = .inl (g.2.1.1, 48, .inl (fun _ => 0)) := rfl
theorem cz98 (g : Geo) : cellE g st0 98 = .inl (g.2.1.1, 96, .inl (fun _ => 0)) := rfl
theorem cz99 (g : Geo) : cellE g st0 99 = .inl (g.2.1.1, 128, .inl (fun _ => 0)) := rfl
theorem cz100 (g : Geo) : cellE g st0 100 = .inl (g.2.1.1, 8, .inl (wch toldF 8)) := by
  rw [cell_i kd100, wch_all (F := toldF) (n := 8) (fun j hj => by unfold toldF; rw [List.getD_eq_getElem?_getD, List.getElem?_eq_none (by rw [Int.toNat_natCast]; exact hj)]; rfl)]; rfl
theorem cz101 (g : Geo) : cellE g st0 101 = .inl (g.2.1.1, 4600, .inl (fun _ => 0)) := rfl
theorem cz102 (g : Geo) : cellE g st0 102 = .inl (g.2.1.2.2.1, 64, .inr (.inr (.inl (fun _ => 0)))) := rfl
theorem cz103 (g : Geo) : cellE g st0 103 = .inl (g.2.1.1, 26, .inl (fun _ => 0)) := rfl
theorem cz104 (g : Geo) : cellE g st0 104 = .inl (g.2.1.1, 208, .inl (fun _ => 0)) := rfl
theorem cz105 (g : Geo) : cellE g st0 105 = .inl (g.2.1.1, 12, .inl (fun _ => 0)) := rfl
theorem cz106 (g : Geo) : cellE g st0 106 = .inl (g.2.1.1, 144, .inl (fun _ => 0)) := rfl
theorem cz107 (g : Geo) : cellE g st0 107 = .inl (g.2.1.1, 144, .inl (fun _ => 0)) := rfl
theorem cz108 (g : Geo) : cellE g st0 108 = .inl (g.2.1.1, 12, .inl (fun _ => 0)) := rfl
theorem cz109 (g : Geo) : cellE g st0 109 = .inl (g.2.1.1, 12, .inl (fun _ => 0)) := rfl
theorem cz110 (g : Geo) : cellE g st0 110 = .inl (g.2.1.1, 156, .inl (fun _ => 0)) := rfl
theorem cz111 (g : Geo) : cellE g st0 111 = .inl (g.2.1.1, 64, .inl (fun _ => 0)) := rfl
theorem cz112 (g : Geo) : cellE g st0 112 = .inl (g.2.1.1, 8, .inl (fun _ => 0)) := rfl
theorem wm_75 : Cond.methodLink RX12 75 yX12_plain ∈ lwg := lwt5 (i := 239) (by decide +kernel) (by decide +kernel)
theorem wm_78 : Cond.methodLink RX12 78 yX12_keepText ∈ lwg := lwt6 (i := 3) (by decide +kernel) (by decide +kernel)
theorem ob_12_1 : Cond.methodLink RX12 1 Lib.objectInit ∈ lwg := lwt5 (i := 238) (by decide +kernel) (by decide +kernel)
theorem fuf_12_7 : FUF RX12 7 12 0 (.array .int) := ⟨RX12, TX12, 48, tyX12, rfl, by decide, inw12, lwt6 (i := 14) (by decide +kernel) rfl, tyX12_ok, nmX12, rfl, rfl, by decide +kernel⟩
theorem fuf_12_13 : FUF RX12 13 12 3 (.array .int) := ⟨RX12, TX12, 48, tyX12, rfl, by decide, inw12, lwt6 (i := 17) (by decide +kernel) rfl, tyX12_ok, nmX12, rfl, rfl, by decide +kernel⟩
theorem fuf_12_20 : FUF RX12 20 12 13 (.array .int) := ⟨RX12, TX12, 48, tyX12, rfl, by decide, inw12, lwt6 (i := 27) (by decide +kernel) rfl, tyX12_ok, nmX12, rfl, rfl, by decide +kernel⟩
theorem fuf_12_23 : FUF RX12 23 12 16 (.array .int) := ⟨RX12, TX12, 48, tyX12, rfl, by decide, inw12, lwt6 (i := 30) (by decide +kernel) rfl, tyX12_ok, nmX12, rfl, rfl, by decide +kernel⟩
theorem fuf_12_26 : FUF RX12 26 12 19 (.array .int) := ⟨RX12, TX12, 48, tyX12, rfl, by decide, inw12, lwt6 (i := 33) (by decide +kernel) rfl, tyX12_ok, nmX12, rfl, rfl, by decide +kernel⟩
theorem fuf_12_29 : FUF RX12 29 12 20 (.array .int) := ⟨RX12, TX12, 48, tyX12, rfl, by decide, inw12, lwt6 (i := 34) (by decide +kernel) rfl, tyX12_ok, nmX12, rfl, rfl, by decide +kernel⟩
theorem fuf_12_32 : FUF RX12 32 12 23 (.array .int) := ⟨RX12, TX12, 48, tyX12, rfl, by decide, inw12, lwt6 (i := 37) (by decide +kernel) rfl, tyX12_ok, nmX12, rfl, rfl, by decide +kernel⟩
theorem fuf_12_35 : FUF RX12 35 12 27 (.array .float) := ⟨RX12, TX12, 48, tyX12, rfl, by decide, inw12, lwt6 (i := 41) (by decide +kernel) rfl, tyX12_ok, nmX12, rfl, rfl, by decide +kernel⟩
theorem fuf_12_39 : FUF RX12 39 12 28 (.array .int) := ⟨RX12, TX12, 48, tyX12, rfl, by decide, inw12, lwt6 (i := 42) (by decide +kernel) rfl, tyX12_ok, nmX12, rfl, rfl, by decide +kernel⟩
theorem fuf_12_42 : FUF RX12 42 12 29 (.array .int) := ⟨RX12, TX12, 48, tyX12, rfl, by decide, inw12, lwt6 (i := 43) (by decide +kernel) rfl, tyX12_ok, nmX12, rfl, rfl, by decide +kernel⟩
theorem fuf_12_48 : FUF RX12 48 12 34 (.array .int) := ⟨RX12, TX12, 48, tyX12, rfl, by decide, inw12, lwt6 (i := 48) (by decide +kernel) rfl, tyX12_ok, nmX12, rfl, rfl, by decide +kernel⟩
theorem fuf_12_51 : FUF RX12 51 12 35 (.array .int) := ⟨RX12, TX12, 48, tyX12, rfl, by decide, inw12, lwt6 (i := 49) (by decide +kernel) rfl, tyX12_ok, nmX12, rfl, rfl, by decide +kernel⟩
theorem fuf_12_54 : FUF RX12 54 12 36 (.array .int) := ⟨RX12, TX12, 48, tyX12, rfl, by decide, inw12, lwt6 (i := 50) (by decide +kernel) rfl, tyX12_ok, nmX12, rfl, rfl, by decide +kernel⟩
theorem fuf_12_60 : FUF RX12 60 12 39 (.array .int) := ⟨RX12, TX12, 48, tyX12, rfl, by decide, inw12, lwt6 (i := 53) (by decide +kernel) rfl, tyX12_ok, nmX12, rfl, rfl, by decide +kernel⟩
theorem fuf_12_63 : FUF RX12 63 12 40 (.array .int) := ⟨RX12, TX12, 48, tyX12, rfl, by decide, inw12, lwt6 (i := 54) (by decide +kernel) rfl, tyX12_ok, nmX12, rfl, rfl, by decide +kernel⟩
theorem fuf_12_66 : FUF RX12 66 12 41 (.array .int) := ⟨RX12, TX12, 48, tyX12, rfl, by decide, inw12, lwt6 (i := 55) (by decide +kernel) rfl, tyX12_ok, nmX12, rfl, rfl, by decide +kernel⟩
theorem fuf_12_69 : FUF RX12 69 12 42 (.array .int) := ⟨RX12, TX12, 48, tyX12, rfl, by decide, inw12, lwt6 (i := 56) (by decide +kernel) rfl, tyX12_ok, nmX12, rfl, rfl, by decide +kernel⟩
theorem fuf_12_72 : FUF RX12 72 12 43 (.array .int) := ⟨RX12, TX12, 48, tyX12, rfl, by decide, inw12, lwt6 (i := 57) (by decide +kernel) rfl, tyX12_ok, nmX12, rfl, rfl, by decide +kernel⟩
def flat11 (g : Geo) (a : Nat → Nat) : va_W := [(a 0, .inr (11, [.ref (a 1), .ref (a 3), .ref (a 16), .ref (a 29), .ref (a 33), .ref (a 35), .ref (a 46), .ref (a 52), .ref (a 55), .ref (a 58), .ref (a 68), .ref (a 73), .ref (a 77), .ref (a 80), .ref (a 83), .ref (a 93), vi 0, vi 0])), (a 1, .inr (8, [.ref (a 2), vi 0, vi 0, vi 0, vi 0, vi 0, vi 0, vi 0, vi 0, vi 0, vi (-1)])), (a 2, .inl (g.2.1.2.1, 700, .inl (fun _ => 0))), (a 3, .inr (0, [.ref (a 4), .ref (a 5), .ref (a 6), .ref (a 7), .ref (a 8), .ref (a 9), .ref (a 10), .ref (a 11), vi 0, vi 0, vi 75, vi 0, vi 0, vi 0])), (a 4, .inl (g.2.1.1, 8, .inl (fun _ => 0))), (a 5, .inl (g.2.1.1, 8, .inl (fun _ => 0))), (a 6, .inl (g.2.1.1, 8, .inl (fun _ => 0))), (a 7, .inl (g.2.1.1, 12, .inl (fun _ => 0))), (a 8, .inl (g.2.1.1, 12, .inl (fun _ => 0))), (a 9, .inl (g.2.1.1, 12, .inl (fun _ => 0))), (a 10, .inl (g.2.1.1, 12, .inl (fun _ => 0))), (a 11, .inr (7, [.ref (a 12), .ref (a 13), .ref (a 14), .ref (a 15), vi 0])), (a 12, .inl (g.2.1.1, 24, .inl (fun _ => 0))), (a 13, .inl (g.2.1.1, 24, .inl (fun _ => 0))), (a 14, .inl (g.2.1.1, 24, .inl (fun _ => 0))), (a 15, .inl (g.2.1.1, 24, .inl (fun _ => 0))), (a 16, .inr (0, [.ref (a 17), .ref (a 18), .ref (a 19), .ref (a 20), .ref (a 21), .ref (a 22), .ref (a 23), .ref (a 24), vi 0, vi 0, vi 75, vi 0, vi 0, vi 0])), (a 17, .inl (g.2.1.1, 8, .inl (fun _ => 0))), (a 18, .inl (g.2.1.1, 8, .inl (fun _ => 0))), (a 19, .inl (g.2.1.1, 8, .inl (fun _ => 0))), (a 20, .inl (g.2.1.1, 12, .inl (fun _ => 0))), (a 21, .inl (g.2.1.1, 12, .inl (fun _ => 0))), (a 22, .inl (g.2.1.1, 12, .inl (fun _ => 0))), (a 23, .inl (g.2.1.1, 12, .inl (fun _ => 0))), (a 24, .inr (7, [.ref (a 25), .ref (a 26), .ref (a 27), .ref (a 28), vi 0])), (a 25, .inl (g.2.1.1, 24, .inl (fun _ => 0))), (a 26, .inl (g.2.1.1, 24, .inl (fun _ => 0))), (a 27, .inl (g.2.1.1, 24, .inl (fun _ => 0))), (a 28, .inl (g.2.1.1, 24, .inl (fun _ => 0))), (a 29, .inr (5, [.ref (a 30), .ref (a 31), .ref (a 32), vi 0])), (a 30, .inl (g.2.1.1, 30, .inl (fun _ => 0))), (a 31, .inl (g.2.1.1, 30, .inl (fun _ => 0))), (a 32, .inl (g.2.1.1, 30, .inl (fun _ => 0))), (a 33, .inr (2, [.ref (a 34), vi 0])), (a 34, .inl (g.2.1.1, 100, .inl (fun _ => 0))), (a 35, .inr (3, [.ref (a 36), .ref (a 40), .ref (a 45), vi 0])), (a 36, .inr (5, [.ref (a 37), .ref (a 38), .ref (a 39), vi 0])), (a 37, .inl (g.2.1.1, 30, .inl (fun _ => 0))), (a 38, .inl (g.2.1.1, 30, .inl (fun _ => 0))), (a 39, .inl (g.2.1.1, 30, .inl (fun _ => 0))), (a 40, .inr (7, [.ref (a 41), .ref (a 42), .ref (a 43), .ref (a 44), vi 0])), (a 41, .inl (g.2.1.1, 24, .inl (fun _ => 0))), (a 42, .inl (g.2.1.1, 24, .inl (fun _ => 0))), (a 43, .inl (g.2.1.1, 24, .inl (fun _ => 0))), (a 44, .inl (g.2.1.1, 24, .inl (fun _ => 0))), (a 45, .inl (g.2.1.1, 12, .inl (fun _ => 0))), (a 46, .inr (10, [.ref (a 47), .ref (a 48), .ref (a 49), .ref (a 50), .ref (a 51), vi 0])), (a 47, .inl (g.2.1.1, 64, .inl (fun _ => 0))), (a 48, .inl (g.2.1.1, 64, .inl (fun _ => 0))), (a 49, .inl (g.2.1.2.2.1, 64, .inr (.inr (.inl (fun _ => 0))))), (a 50, .inl (g.2.1.1, 8, .inl (fun _ => 0))), (a 51, .inl (g.2.1.1, 8, .inl (fun _ => 0))), (a 52, .inr (4, [.ref (a 53), .ref (a 54), vi 0])), (a 53, .inl (g.2.1.1, 25, .inl (fun _ => 0))), (a 54, .inl (g.2.1.1, 200, .inl (fun _ => 0))), (a 55, .inr (6, [.ref (a 56), .ref (a 57)])), (a 56, .inl (g.2.1.1, 144, .inl (fun _ => 0))), (a 57, .inl (g.2.1.1, 144, .inl (fun _ => 0))), (a 58, .inr (1, [.ref (a 59), .ref (a 60), .ref (a 61), .ref (a 62), .ref (a 63), .ref (a 64), .ref (a 65), .ref (a 66), .ref (a 67), vi 0, vi 0, vi 0, vi 0, vi 0])), (a 59, .inl (g.2.1.1, 12, .inl (fun _ => 0))), (a 60, .inl (g.2.1.1, 12, .inl (fun _ => 0))), (a 61, .inl (g.2.1.1, 144, .inl (fun _ => 0))), (a 62, .inl (g.2.1.1, 144, .inl (fun _ => 0))), (a 63, .inl (g.2.1.1, 144, .inl (fun _ => 0))), (a 64, .inl (g.2.1.1, 12, .inl (fun _ => 0))), (a 65, .inl (g.2.1.1, 12, .inl (fun _ => 0))), (a 66, .inl (g.2.1.1, 12, .inl (fun _ => 0))), (a 67, .inl (g.2.1.1, 12, .inl (fun _ => 0))), (a 68, .inr (9, [.ref (a 69), .ref (a 70), .ref (a 71), .ref (a 72), vi 0])), (a 69, .inl (g.2.1.1, 8, .inl (fun _ => 0))), (a 70, .inl (g.2.1.1, 8, .inl (fun _ => 0))), (a 71, .inl (g.2.1.1, 8, .inl (fun _ => 0))), (a 72, .inl (g.2.1.1, 8, .inl (fun _ => 0))), (a 73, .inr (5, [.ref (a 74), .ref (a 75), .ref (a 76), vi 0])), (a 74, .inl (g.2.1.1, 30, .inl (fun _ => 0))), (a 75, .inl (g.2.1.1, 30, .inl (fun _ => 0))), (a 76, .inl (g.2.1.1, 30, .inl (fun _ => 0))), (a 77, .inr (4, [.ref (a 78), .ref (a 79), vi 0])), (a 78, .inl (g.2.1.1, 25, .inl (fun _ => 0))), (a 79, .inl (g.2.1.1, 200, .inl (fun _ => 0))), (a 80, .inr (6, [.ref (a 81), .ref (a 82)])), (a 81, .inl (g.2.1.1, 144, .inl (fun _ => 0))), (a 82, .inl (g.2.1.1, 144, .inl (fun _ => 0))), (a 83, .inr (1, [.ref (a 84), .ref (a 85), .ref (a 86), .ref (a 87), .ref (a 88), .ref (a 89), .ref (a 90), .ref (a 91), .ref (a 92), vi 0, vi 0, vi 0, vi 0, vi 0])), (a 84, .inl (g.2.1.1, 12, .inl (fun _ => 0))), (a 85, .inl (g.2.1.1, 12, .inl (fun _ => 0))), (a 86, .inl (g.2.1.1, 144, .inl (fun _ => 0))), (a 87, .inl (g.2.1.1, 144, .inl (fun _ => 0))), (a 88, .inl (g.2.1.1, 144, .inl (fun _ => 0))), (a 89, .inl (g.2.1.1, 12, .inl (fun _ => 0))), (a 90, .inl (g.2.1.1, 12, .inl (fun _ => 0))), (a 91, .inl (g.2.1.1, 12, .inl (fun _ => 0))), (a 92, .inl (g.2.1.1, 12, .inl (fun _ => 0))), (a 93, .inl (g.2.1.1, 12, .inl (fun _ => 0)))]
set_option maxHeartbeats 4000000 in
set_option maxRecDepth 100000 in
theorem flat_eq (g : Geo) (a : Nat → Nat) : wX11 g a = flat11 g a := rfl
abbrev rn_X12 : Room := { frames := 2, cells := 18, slots := 6471, locals := 43 }
abbrev df12 : List Value := [.null, .int 0, .int 0, .null, .int 0, .int 0, .int 0, .int 0, .int 0, .int 0, .int 0, .int 0, .int 0, .null, .int 0, .int 0, .null, .int 0, .int 0, .null, .null, .int 0, .int 0, .null, .int 0, .int 0, .int 0, .null, .null, .null, .int 0, .int 0, .int 0, .int 0, .null, .null, .null, .int 0, .int 0, .null, .null, .null, .null, .null, .int 0, .int 0, .int 0, .long 0]
abbrev w012 (g : Geo) (a : Nat → Nat) (h0 : Nat) : va_W := [(h0, .inr (12, df12))] ++ flat11 g a
abbrev pidx (k : Nat) : Nat := if k < 94 then k + 19 else k - 94
abbrev P12 (g : Geo) (a : Nat → Nat) (h0 sz : Nat) : Array Value → State → Prop := va_Pc [.ref h0] (fun U => U.heap.size = sz ∧ va_P g.1 vwCl (w012 g a h0) U.heap ∧ va_D (fun _ => True) (w012 g a h0) ∧ va_K g.1 vwCl (tysG g) U ∧ LWF g (va_A (w012 g a h0) sz) U U.heap)
def G12 (g : Geo) (a : Nat → Nat) (h0 : Nat) (σ : Sto) (g' : Geo) : Prop := g'.1 = g.1 ∧ g'.2.1 = g.2.1 ∧ (∀ k, k < 94 → g'.2.2 k = a k) ∧ g'.2.2 94 = h0 ∧ g'.2.2 200 = g.2.2 200 ∧ npo g' = 113 ∧ Inj g' ∧ OK σ
abbrev Q12 (g : Geo) (a : Nat → Nat) (h0 sz : Nat) (σ : Sto) : Array Value → State → Outcome → State → Prop := va_Qv (G12 g a h0 σ) (fun g' t => va_P g'.1 vwCl (wd g' σ) t.heap) (va_A (w012 g a h0) sz)
abbrev g12 (g : Geo) (a : Nat → Nat) (h0 q1 q2 q3 q4 q5 q6 q7 q8 q9 q10 q11 q12 q13 q14 q15 q16 q17 q18 : Nat) : Geo := (g.1, g.2.1, fun k => if k < 94 then a k else if k < 113 then ([h0, q1, q2, q3, q4, q5, q6, q7, q8, q9, q10, q11, q12, q13, q14, q15, q16, q17, q18] : List Nat).getD (k - 94) 0 else if k = 200 then g.2.2 200 else if k = 300 then 113 else 0)
abbrev m12 (g : Geo) (h0 q1 q2 q3 q4 q5 q6 q7 q8 q9 q10 q11 q12 q13 q14 q15 q16 q17 q18 : Nat) : va_W := [(h0, .inr (12, [.ref q1, .int 0, .int 0, .ref q2, .int 0, vi (-1), .int 0, .int 0, .int 0, .int 0, .int 0, .int 0, .int 0, .ref q3, .int 0, .int 0, .ref q4, .int 0, .int 0, .ref q5, .ref q6, .int 0, .int 0, .ref q7, .int 0, .int 0, .int 0, .ref q8, .ref q9, .ref q10, .int 0, vi (-1), .int 0, .int 0, .ref q11, .ref q12, .ref q13, .int 0, vi (-1), .ref q14, .ref q15, .ref q16, .ref q17, .ref q18, .int 0, .int 0, .int 0, .long 0])), (q1, .inl (g.2.1.1, 700, .inl (fun _ => 0))), (q2, .inl (g.2.1.1, 41, .inl (wch wordsF 41))), (q3, .inl (g.2.1.1, 48, .inl (fun _ => 0))), (q4, .inl (g.2.1.1, 96, .inl (fun _ => 0))), (q5, .inl (g.2.1.1, 128, .inl (fun _ => 0))), (q6, .inl (g.2.1.1, 8, .inl (wch toldF 8))), (q7, .inl (g.2.1.1, 4600, .inl (fun _ => 0))), (q8, .inl (g.2.1.2.2.1, 64, .inr (.inr (.inl (fun _ => 0))))), (q9, .inl (g.2.1.1, 26, .inl (fun _ => 0))), (q10, .inl (g.2.1.1, 208, .inl (fun _ => 0))), (q11, .inl (g.2.1.1, 12, .inl (fun _ => 0))), (q12, .inl (g.2.1.1, 144, .inl (fun _ => 0))), (q13, .inl (g.2.1.1, 144, .inl (fun _ => 0))), (q14, .inl (g.2.1.1, 12, .inl (fun _ => 0))), (q15, .inl (g.2.1.1, 12, .inl (fun _ => 0))), (q16, .inl (g.2.1.1, 156, .inl (fun _ => 0))), (q17, .inl (g.2.1.1, 64, .inl (fun _ => 0))), (q18, .inl (g.2.1.1, 8, .inl (fun _ => 0)))]
