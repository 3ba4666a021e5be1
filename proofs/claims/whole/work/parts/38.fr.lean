/-! FRAMES: what a function leaves as it was -/
def Fr (W : Nat → Int → Prop) (σ σ' : Sto) : Prop := (∀ a j, ¬ W a j → σ'.1 a j = σ.1 a j) ∧ ∀ a j, ¬ W a j → σ'.2 a j = σ.2 a j
theorem Fr.rf {W : Nat → Int → Prop} {σ : Sto} : Fr W σ σ := ⟨fun _ _ _ => rfl, fun _ _ _ => rfl⟩
theorem Fr_tr {W : Nat → Int → Prop} {σ σ1 σ2 : Sto} (h1 : Fr W σ σ1) (h2 : Fr W σ1 σ2) : Fr W σ σ2 := ⟨fun a j h => (h2.1 a j h).trans (h1.1 a j h), fun a j h => (h2.2 a j h).trans (h1.2 a j h)⟩
theorem Fr_mono {W W2 : Nat → Int → Prop} {σ σ' : Sto} (h : Fr W σ σ') (hs : ∀ a j, W a j → W2 a j) : Fr W2 σ σ' := ⟨fun a j n => h.1 a j (fun z => n (hs a j z)), fun a j n => h.2 a j (fun z => n (hs a j z))⟩
theorem Fr_up {W : Nat → Int → Prop} {σ σ1 : Sto} {k : Nat} {i v : Int} (h : Fr W σ σ1) (hw : W k i) : Fr W σ (upI σ1 k i v) := by
  refine Fr_tr h ⟨fun a j n => ?_, fun _ _ _ => rfl⟩
  show (if a = k ∧ j = i then v else σ1.1 a j) = σ1.1 a j
  rw [if_neg (fun z => n (by rw [z.1, z.2]; exact hw))]
theorem Fr_uf {W : Nat → Int → Prop} {σ σ1 : Sto} {k : Nat} {i v : Int} (h : Fr W σ σ1) (hw : W k i) : Fr W σ (upF σ1 k i v) := by
  refine Fr_tr h ⟨fun _ _ _ => rfl, fun a j n => ?_⟩
  show (if a = k ∧ j = i then v else σ1.2 a j) = σ1.2 a j
  rw [if_neg (fun z => n (by rw [z.1, z.2]; exact hw))]
theorem Fr_cp {W : Nat → Int → Prop} {σ σ1 : Sto} {ks kd : Nat} {sp dp n : Int} (h : Fr W σ σ1) (hw : ∀ j, W kd j) : Fr W σ (cpI σ1 ks sp kd dp n) := by
  refine Fr_tr h ⟨fun a j q => ?_, fun _ _ _ => rfl⟩
  show (if a = kd ∧ dp ≤ j ∧ j < dp + n then _ else σ1.1 a j) = σ1.1 a j
  rw [if_neg (fun z => q (by rw [z.1]; exact hw j))]
theorem bookc {b : Nat} (h : knd b = (10, 14)) : b = 3 ∨ b = 16 := by
  have a : ∀ i, i < 114 → knd i = (10, 14) → i = 3 ∨ i = 16 := by decide +kernel
  exact a b (knd_lt h (by decide)) h
