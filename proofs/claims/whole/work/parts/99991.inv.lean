/-! THE INVARIANT between the two, and every call but the text -/
def ImgI (σ : Sto) (D : Dk) : Prop := σ.1 35 3 = σ.1 94 26 ∧ (σ.1 35 3 = 0 ∨ (σ.1 35 3 = 1 ∧ ∃ E : Dk, Val E ∧ GdD E ∧ SameT D E ∧ BkM σ 2 E ∧ ImX σ E))
def wrdC (k : Int) : Int := ([109, 101, 109, 98, 101, 114, 32, 111, 119, 110, 115, 32, 112, 101, 114, 105, 111, 100, 32, 103, 97, 116, 101, 32, 112, 114, 105, 99, 101, 32, 99, 97, 114, 114, 121, 32, 115, 101, 101, 100, 32] : List Int).getD k.toNat 0
def TapI (σ : Sto) : Prop := ∃ t : Nat, t ≤ 700 ∧ (σ.1 1 1 = t ∧ σ.1 94 1 = t) ∧ (∀ k : Nat, k < t → (-128 ≤ σ.1 2 k ∧ σ.1 2 k ≤ 127) ∧ σ.1 95 k = σ.1 2 k % 256) ∧ (σ.1 1 9 = σ.1 94 4 ∧ σ.1 1 10 = σ.1 94 5) ∧ ∀ k : Nat, k < 41 → σ.1 96 k = wrdC k
def InvD (σ : Sto) (b : Nat) (D : Dk) (u : Nat) (Ds : Nat → Dk) : Prop := XC σ b D ∧ σ.1 0 2 = 19 - (b : Int) ∧ MK σ D ∧ Val D ∧ GdD D ∧ UndI σ u Ds D ∧ ImgI σ D ∧ TapI σ
def INV (σ : Sto) : Prop := ∃ b D u Ds, InvD σ b D u Ds
theorem ImX.cg {σ σ' : Sto} {D : Dk} (h : ImX σ D) (e : ∀ y z, 36 ≤ y → y ≤ 45 → σ'.1 y z = σ.1 y z) : ImX σ' D := ⟨h.1.cg (fun a j p q => e a j (by omega) (by omega)), h.2.1.cg (fun a j p q => e a j (by omega) (by omega)), fun p p0 p1 => by rw [e _ _ (by omega) (by omega)]; exact h.2.2 p p0 p1⟩
theorem ImgI.cg {σ σ' : Sto} {D D' : Dk} (h : ImgI σ D) (S : SameT D D') (e1 : ∀ y z, 35 ≤ y → y ≤ 45 → σ'.1 y z = σ.1 y z) (e2 : σ'.1 94 26 = σ.1 94 26) (e3 : ∀ z, 400 ≤ z → z < 600 → σ'.1 101 z = σ.1 101 z) : ImgI σ' D' := by
  refine ⟨by rw [e1 _ _ (by omega) (by omega), e2]; exact h.1, ?_⟩
  rcases h.2 with q | ⟨q, E, v1, v2, v3, v4, v5⟩
  · exact Or.inl (by rw [e1 _ _ (by omega) (by omega)]; exact q)
  · exact Or.inr ⟨by rw [e1 _ _ (by omega) (by omega)]; exact q, E, v1, v2, S.sy.tr v3, v4.cg (fun j j0 j1 => e3 j (by omega) (by omega)) v1, v5.cg (fun y z p q => e1 y z (by omega) q)⟩
theorem TapI.cg {σ σ' : Sto} (h : TapI σ) (e1 : ∀ y z, y = 1 ∨ y = 2 ∨ y = 95 ∨ y = 96 → σ'.1 y z = σ.1 y z) (e2 : ∀ z, z = 1 ∨ z = 4 ∨ z = 5 → σ'.1 94 z = σ.1 94 z) : TapI σ' := by
  obtain ⟨t, h1, h2, h3, h4, h5⟩ := h
  refine ⟨t, h1, ⟨by rw [e1 _ _ (by omega)]; exact h2.1, by rw [e2 _ (by omega)]; exact h2.2⟩, fun k hk => ?_, ⟨?_, ?_⟩, fun k hk => by rw [e1 _ _ (by omega)]; exact h5 k hk⟩
  · rw [e1 2 _ (by omega), e1 95 _ (by omega)]; exact h3 k hk
  · rw [e1 _ _ (by omega), e2 _ (by omega)]; exact h4.1
  · rw [e1 _ _ (by omega), e2 _ (by omega)]; exact h4.2
theorem UndI.cg {σ σ' : Sto} {u : Nat} {Ds : Nat → Dk} {D : Dk} (h : UndI σ u Ds D) (e1 : ∀ y z, y = 33 ∨ y = 34 → σ'.1 y z = σ.1 y z) (e2 : σ'.1 94 25 = σ.1 94 25) (e3 : ∀ z, 600 ≤ z → σ'.1 101 z = σ.1 101 z) : UndI σ' u Ds D := by
  obtain ⟨h1, h2, h3, h4, h5⟩ := h
  refine ⟨h1, by rw [e1 _ _ (by omega)]; exact h2, by rw [e2]; exact h3, h4, fun k hk => ?_⟩
  obtain ⟨v1, v2, v3, v4, v5⟩ := h5 k hk
  refine ⟨v1, v2, v3, v4.cg (fun j j0 j1 => e3 j (by omega)) v1, ?_⟩
  show InvR (σ'.1 34 _) (σ'.1 34 _) (σ'.1 34 _) (σ'.1 34 _) (σ'.1 34 _) _ _
  rw [e1 _ _ (by omega), e1 _ _ (by omega), e1 _ _ (by omega), e1 _ _ (by omega), e1 _ _ (by omega)]
  exact v5
section STEP
variable {N : Nat} {σ : Sto} {b u : Nat} {D : Dk} {Ds : Nat → Dk}
/-- a question leaves all as it is -/
theorem InvD.same (I : InvD σ b D u Ds) {σ1 σ2 : Sto} (X : XSame σ σ1 b D) (M : MK σ2 D) (m : MO σ1 σ2) : InvD σ2 b D u Ds := by
  obtain ⟨i1, i2, i3, i4, i5, i6, i7, i8⟩ := I
  have e : ∀ y z, (y = 0 ∧ z ≠ 16 ∧ z ≠ 17) ∨ y = 1 ∨ y = 2 ∨ (33 ≤ y ∧ y ≤ 45) ∨ (94 ≤ y ∧ (y = 94 → z = 1 ∨ (3 ≤ z ∧ z ≤ 29)) ∧ (y < 101 ∨ (y = 101 ∧ ¬ (200 ≤ z ∧ z < 400)))) → σ2.1 y z = σ.1 y z := fun y z q => by
    by_cases h : y = 33 ∨ y = 34
    · rw [m.1 y z (by omega)]; exact X.2.2 y z h
    · rw [m.1 y z (by omega)]; exact X.2.1 y z (by omega)
  exact ⟨X.1.mo m, by rw [e _ _ (by omega)]; exact i2, M, i4, i5, i6.cg (fun y z q => e y z (by omega)) (e _ _ (by omega)) (fun z hz => e _ _ (by omega)), i7.cg SameT.rf (fun y z p q => e y z (by omega)) (e _ _ (by omega)) (fun z p q => e _ _ (by omega)), i8.cg (fun y z q => e y z (by omega)) (fun z q => e _ _ (by omega))⟩
/-- a change: the desk becomes E, and can be undone -/
theorem InvD.step (I : InvD σ b D u Ds) {E : Dk} {σ1 σ2 : Sto} {k a c d e : Int} (X : XC σ1 b E) (fx : FX σ σ1) (px : PshX σ σ1 k a c d e) (M : MK σ2 E) (fm : FM σ1 σ2) (pm : PshM σ1 σ2) (V : Val E) (K : GdD E) (hI : InvR k a c d e E D) (S : SameT E D) : INV σ2 := by
  obtain ⟨i1, i2, i3, i4, i5, i6, i7, i8⟩ := I
  have f : ∀ y z, (y = 0 ∧ z ≠ 16 ∧ z ≠ 17) ∨ y = 1 ∨ y = 2 ∨ (35 ≤ y ∧ y ≤ 45) ∨ (y = 94 ∧ (z = 1 ∨ (3 ≤ z ∧ z ≤ 23) ∨ z = 26)) ∨ (95 ≤ y ∧ y ≤ 100) ∨ (y = 101 ∧ 400 ≤ z ∧ z < 600) → σ2.1 y z = σ.1 y z := fun y z q => by rw [fm.1 y z (by omega)]; exact fx y z (by omega)
  have B : BkM σ1 0 D := i3.b0.cg (fun z _ _ => fx _ _ (by omega)) i4
  refine ⟨b, E, _, _, ?_, by rw [f _ _ (by omega)]; exact i2, M, V, K, i6.push i4 i5 B px (fun z => fx _ _ (by omega)) (fun z => fx _ _ (by omega)) pm (fun z => fm.1 _ _ (by omega)) (fun z => fm.1 _ _ (by omega)) hI S, i7.cg S.sy (fun y z p q => f y z (by omega)) (f _ _ (by omega)) (fun z p q => f _ _ (by omega)), i8.cg (fun y z q => f y z (by omega)) (fun z q => f _ _ (by omega))⟩
  exact X.cg2 (fun a j q => fm.1 a j (by omega)) (X.2.2.2.2.1.cg (fun j => fm.1 _ _ (by omega)) fm.2)
/-- two answers alike -/
def Ask (o : Option (Int × Sto)) (o' : Sto → Option (Int × Sto)) : Prop := ∃ r σ1 σ2, o = some (r, σ1) ∧ o' σ1 = some (r, σ2) ∧ INV σ2
def AskP (o : Option Int) (o' : Option (Int × Sto)) : Prop := ∃ r σ2, o = some r ∧ o' = some (r, σ2) ∧ INV σ2
theorem InvD.ask (I : InvD σ b D u Ds) {o : Option (Int × Sto)} {o' : Sto → Option (Int × Sto)} {r : Int} (hx : QX σ b D o r) (hm : ∀ σ1, RO σ σ1 → MK σ1 D → QM σ1 D (o' σ1) r) : Ask o o' := by
  obtain ⟨σ1, a1, a2, a3⟩ := hx
  obtain ⟨σ2, b1, b2, b3⟩ := hm σ1 a3 (I.2.2.1.ro I.2.2.2.1 a3)
  exact ⟨r, σ1, σ2, a1, b1, b, D, u, Ds, I.same (XSame.ro a2 a3) b2 b3⟩
theorem InvD.askP (I : InvD σ b D u Ds) {o : Option Int} {o' : Option (Int × Sto)} {r : Int} (hx : o = some r) (hm : QM σ D o' r) : AskP o o' := by
  obtain ⟨σ2, b1, b2, b3⟩ := hm
  exact ⟨r, σ2, hx, b1, b, D, u, Ds, I.same (XSame.ro I.1 RO.rf) b2 b3⟩
theorem s_named (hN : BigN N) (H : INV σ) (x : Int) : AskP (F_X11_named N x σ) (F_X12_named N x σ) := by
  obtain ⟨b, D, u, Ds, I⟩ := H
  exact I.askP (x_named hN I.2.2.2.1 I.1 x) (m_named hN I.2.2.2.1 I.2.2.1 x)
theorem s_fault (H : INV σ) (x : Int) : AskP (F_X11_fault N x σ) (F_X12_fault N x σ) := by
  obtain ⟨b, D, u, Ds, I⟩ := H
  obtain ⟨t, -, -, -, ⟨e1, e2⟩, -⟩ := I.2.2.2.2.2.2.2
  refine I.askP (x_fault x) ?_
  rw [e1, e2]
  exact m_fault I.2.2.2.1 I.2.2.1 x
theorem s_count (hN : BigN N) (H : INV σ) (x : Int) : AskP (F_X11_count N x σ) (F_X12_count N x σ) := by
  obtain ⟨b, D, u, Ds, I⟩ := H
  obtain ⟨t, -, ⟨e1, e2⟩, -, -, -⟩ := I.2.2.2.2.2.2.2
  obtain ⟨-, e3, e4, -⟩ := I.2.2.2.2.2.1
  refine I.askP (x_count hN I.2.2.2.1 I.1 x) ?_
  rw [e1, ← e2, e3, ← e4]
  exact m_count hN I.2.2.2.1 I.2.2.1 x
theorem s_period (hN : BigN N) (H : INV σ) (x y : Int) : AskP (F_X11_period N x y σ) (F_X12_period N x y σ) := by
  obtain ⟨b, D, u, Ds, I⟩ := H
  exact I.askP (x_period hN I.2.2.2.1 I.1 x y) (m_period hN I.2.2.2.1 I.2.2.1 x y)
theorem s_claimed (H : INV σ) (x y : Int) : AskP (F_X11_claimed N x y σ) (F_X12_claimed N x y σ) := by
  obtain ⟨b, D, u, Ds, I⟩ := H
  exact I.askP (x_claimed I.2.2.2.1 I.1 x y) (m_claimed I.2.2.2.1 I.2.2.1 x y)
theorem s_percent (hN : BigN N) (H : INV σ) (x y z : Int) : Ask (F_X11_percent N x y z σ) (fun σ1 => F_X12_percent N x y z σ1) := by
  obtain ⟨b, D, u, Ds, I⟩ := H
  exact I.ask (x_percent hN I.2.2.2.1 I.1 x y z) (fun σ1 _ M => m_percent hN I.2.2.2.1 M x y z)
theorem s_share (hN : BigN N) (H : INV σ) (x y z : Int) : Ask (F_X11_share N x y z σ) (fun σ1 => F_X12_share N x y z σ1) := by
  obtain ⟨b, D, u, Ds, I⟩ := H
  exact I.ask (x_share hN I.2.2.2.1 I.1 x y z) (fun σ1 _ M => m_share hN I.2.2.2.1 M x y z)
theorem s_parts (hN : BigN N) (H : INV σ) (x y z : Int) : Ask (F_X11_parts N x y z σ) (fun σ1 => F_X12_parts N x y z σ1) := by
  obtain ⟨b, D, u, Ds, I⟩ := H
  exact I.ask (x_parts hN I.2.2.2.1 I.1 x y z) (fun σ1 _ M => m_parts hN I.2.2.2.1 M x y z)
theorem s_controls (hN : BigN N) (H : INV σ) (x y z : Int) : Ask (F_X11_controls N x y z σ) (fun σ1 => F_X12_controls N x y z σ1) := by
  obtain ⟨b, D, u, Ds, I⟩ := H
  exact I.ask (x_controls hN I.2.2.2.1 I.1 x y z) (fun σ1 _ M => m_controls hN I.2.2.2.1 M x y z)
theorem s_related (hN : BigN N) (H : INV σ) (x y : Int) : Ask (F_X11_related N x y σ) (fun σ1 => F_X12_related N x y σ1) := by
  obtain ⟨b, D, u, Ds, I⟩ := H
  exact I.ask (x_related hN I.2.2.2.1 I.1 x y) (fun σ1 _ M => m_related hN I.2.2.2.1 M x y)
theorem s_groups (hN : BigN N) (H : INV σ) (x : Int) : Ask (F_X11_groups N x σ) (fun σ1 => F_X12_groups N x σ1) := by
  obtain ⟨b, D, u, Ds, I⟩ := H
  exact I.ask (x_groups hN I.2.2.2.1 I.1 x) (fun σ1 _ M => m_groups hN I.2.2.2.1 M x)
theorem s_steps (hN : BigN N) (H : INV σ) (x y z : Int) : Ask (F_X11_steps N x y z σ) (fun σ1 => F_X12_steps N x y z σ1) := by
  obtain ⟨b, D, u, Ds, I⟩ := H
  exact I.ask (x_steps hN I.2.2.2.1 I.1 x y z) (fun σ1 _ M => m_steps hN I.2.2.2.1 M x y z)
theorem s_days (hN : BigN N) (H : INV σ) (x y z : Int) : Ask (F_X11_days N x y z σ) (fun σ1 => F_X12_days N x y z σ1) := by
  obtain ⟨b, D, u, Ds, I⟩ := H
  exact I.ask (x_days hN I.2.2.2.1 I.1 x y z) (fun σ1 _ M => m_daysQ hN I.2.2.2.1 M x y z)
theorem s_shared (hN : BigN N) (H : INV σ) (x y : Int) : Ask (F_X11_shared N x y σ) (fun σ1 => F_X12_shared N x y σ1) := by
  obtain ⟨b, D, u, Ds, I⟩ := H
  exact I.ask (x_shared hN I.2.2.2.1 I.1 x y) (fun σ1 _ M => m_sharedQ hN I.2.2.2.1 M x y)
theorem s_bound (hN : BigN N) (H : INV σ) (x y : Int) : Ask (F_X11_bound N x y σ) (fun σ1 => F_X12_bound N x y σ1) := by
  obtain ⟨b, D, u, Ds, I⟩ := H
  exact I.ask (x_bound hN I.2.2.2.1 I.1 x y) (fun σ1 _ M => m_bound hN I.2.2.2.1 M x y)
theorem s_room (hN : BigN N) (H : INV σ) (x y : Int) : Ask (F_X11_room N x y σ) (fun σ1 => F_X12_room N x y σ1) := by
  obtain ⟨b, D, u, Ds, I⟩ := H
  exact I.ask (x_room hN I.2.2.2.1 I.1 x y) (fun σ1 _ M => m_room hN I.2.2.2.1 M x y)
theorem s_price (hN : BigN N) (H : INV σ) (x y : Int) : Ask (F_X11_price N x y σ) (fun σ1 => F_X12_price N x y σ1) := by
  obtain ⟨b, D, u, Ds, I⟩ := H
  exact I.ask (x_price hN I.2.2.2.1 I.1 x y) (fun σ1 _ M => m_price I.2.2.2.1 M x y)
theorem s_relief (hN : BigN N) (H : INV σ) (x y : Int) : Ask (F_X11_relief N x y σ) (fun σ1 => F_X12_relief N x y σ1) := by
  obtain ⟨b, D, u, Ds, I⟩ := H
  have R : RD D := (k_refreshFlow hN I.2.2.2.1 I.2.2.2.2.1 I.1).choose_spec.2.2.2.2.1.ends
  exact I.ask (x_relief hN I.2.2.2.1 I.2.2.2.2.1 I.1 x y) (fun σ1 _ M => m_relief hN I.2.2.2.1 I.2.2.2.2.1 R M x y)
theorem s_solved (hN : BigN N) (H : INV σ) (x : Int) : Ask (F_X11_solved N x σ) (fun σ1 => F_X12_solved N x σ1) := by
  obtain ⟨b, D, u, Ds, I⟩ := H
  have R : RD D := (k_refreshFlow hN I.2.2.2.1 I.2.2.2.2.1 I.1).choose_spec.2.2.2.2.1.ends
  exact I.ask (x_solved hN I.2.2.2.1 I.2.2.2.2.1 I.1 x) (fun σ1 _ M => m_solved hN I.2.2.2.1 I.2.2.2.2.1 R M x)
theorem s_left (hN : BigN N) (H : INV σ) (x : Int) : Ask (F_X11_left N x σ) (fun σ1 => F_X12_left N x σ1) := by
  obtain ⟨b, D, u, Ds, I⟩ := H
  have R : RD D := (k_refreshFlow hN I.2.2.2.1 I.2.2.2.2.1 I.1).choose_spec.2.2.2.2.1.ends
  exact I.ask (x_left hN I.2.2.2.1 I.2.2.2.2.1 I.1 x) (fun σ1 _ M => m_left hN I.2.2.2.1 I.2.2.2.2.1 R M x)
theorem s_tax (hN : BigN N) (H : INV σ) (x : Int) : Ask (F_X11_tax N x σ) (fun σ1 => F_X12_tax N x σ1) := by
  obtain ⟨b, D, u, Ds, I⟩ := H
  have R : RD D := (k_refreshFlow hN I.2.2.2.1 I.2.2.2.2.1 I.1).choose_spec.2.2.2.2.1.ends
  exact I.ask (x_tax hN I.2.2.2.1 I.2.2.2.2.1 I.1 x) (fun σ1 _ M => m_tax hN I.2.2.2.1 I.2.2.2.2.1 R M x)
theorem s_reached (hN : BigN N) (H : INV σ) : Ask (F_X11_reached N σ) (fun σ1 => F_X12_reached N σ1) := by
  obtain ⟨b, D, u, Ds, I⟩ := H
  have R : RD D := (k_refreshFlow hN I.2.2.2.1 I.2.2.2.2.1 I.1).choose_spec.2.2.2.2.1.ends
  exact I.ask (x_reached hN I.2.2.2.1 I.2.2.2.2.1 I.1 ) (fun σ1 _ M => m_reached hN I.2.2.2.1 I.2.2.2.2.1 R M )
theorem s_route (hN : BigN N) (H : INV σ) (x : Int) : Ask (F_X11_route N x σ) (fun σ1 => F_X12_route N x σ1) := by
  obtain ⟨b, D, u, Ds, I⟩ := H
  have R : RD D := (k_refreshFlow hN I.2.2.2.1 I.2.2.2.2.1 I.1).choose_spec.2.2.2.2.1.ends
  exact I.ask (x_route hN I.2.2.2.1 I.2.2.2.2.1 I.1 x) (fun σ1 _ M => m_route hN I.2.2.2.1 I.2.2.2.2.1 R M x)
theorem s_carried (hN : BigN N) (H : INV σ) (x : Int) : Ask (F_X11_carried N x σ) (fun σ1 => F_X12_carried N x σ1) := by
  obtain ⟨b, D, u, Ds, I⟩ := H
  have R : RD D := (k_refreshFlow hN I.2.2.2.1 I.2.2.2.2.1 I.1).choose_spec.2.2.2.2.1.ends
  exact I.ask (x_carried hN I.2.2.2.1 I.2.2.2.2.1 I.1 x) (fun σ1 _ M => m_carried hN I.2.2.2.1 I.2.2.2.2.1 R M x)
theorem s_dearest (hN : BigN N) (H : INV σ) : Ask (F_X11_dearest N σ) (fun σ1 => F_X12_dearest N σ1) := by
  obtain ⟨b, D, u, Ds, I⟩ := H
  have R : RD D := (k_refreshFlow hN I.2.2.2.1 I.2.2.2.2.1 I.1).choose_spec.2.2.2.2.1.ends
  exact I.ask (x_dearest hN I.2.2.2.1 I.2.2.2.2.1 I.1 ) (fun σ1 _ M => m_dearest hN I.2.2.2.1 I.2.2.2.2.1 R M )
theorem s_pays (hN : BigN N) (H : INV σ) (x y : Int) : Ask (F_X11_pays N x y σ) (fun σ1 => F_X12_pays N x y σ1) := by
  obtain ⟨b, D, u, Ds, I⟩ := H
  have R : RD D := (k_refreshFlow hN I.2.2.2.1 I.2.2.2.2.1 I.1).choose_spec.2.2.2.2.1.ends
  exact I.ask (x_pays hN I.2.2.2.1 I.2.2.2.2.1 I.1 x y) (fun σ1 _ M => m_pays hN I.2.2.2.1 I.2.2.2.2.1 R M x y)
theorem s_balance (hN : BigN N) (H : INV σ) (x : Int) : Ask (F_X11_balance N x σ) (fun σ1 => F_X12_balance N x σ1) := by
  obtain ⟨b, D, u, Ds, I⟩ := H
  have R : RD D := (k_refreshFlow hN I.2.2.2.1 I.2.2.2.2.1 I.1).choose_spec.2.2.2.2.1.ends
  exact I.ask (x_balance hN I.2.2.2.1 I.2.2.2.2.1 I.1 x) (fun σ1 _ M => m_balance hN I.2.2.2.1 I.2.2.2.2.1 R M x)
theorem s_owes (hN : BigN N) (H : INV σ) (x y : Int) : Ask (F_X11_owes N x y σ) (fun σ1 => F_X12_owes N x y σ1) := by
  obtain ⟨b, D, u, Ds, I⟩ := H
  have R : RD D := (k_refreshFlow hN I.2.2.2.1 I.2.2.2.2.1 I.1).choose_spec.2.2.2.2.1.ends
  exact I.ask (x_owes hN I.2.2.2.1 I.2.2.2.2.1 I.1 x y) (fun σ1 _ M => m_owes hN I.2.2.2.1 I.2.2.2.2.1 R M x y)
theorem s_settles (hN : BigN N) (H : INV σ) : Ask (F_X11_settles N σ) (fun σ1 => F_X12_settles N σ1) := by
  obtain ⟨b, D, u, Ds, I⟩ := H
  have R : RD D := (k_refreshFlow hN I.2.2.2.1 I.2.2.2.2.1 I.1).choose_spec.2.2.2.2.1.ends
  exact I.ask (x_settles hN I.2.2.2.1 I.2.2.2.2.1 I.1 ) (fun σ1 _ M => m_settles hN I.2.2.2.1 I.2.2.2.2.1 R M )
theorem s_settling (hN : BigN N) (H : INV σ) (x y : Int) (hx : inR x) : Ask (F_X11_settling N x y σ) (fun σ1 => F_X12_settling N x y σ1) := by
  obtain ⟨b, D, u, Ds, I⟩ := H
  have R : RD D := (k_refreshFlow hN I.2.2.2.1 I.2.2.2.2.1 I.1).choose_spec.2.2.2.2.1.ends
  exact I.ask (x_settling hN I.2.2.2.1 I.2.2.2.2.1 I.1 R x y) (fun σ1 _ M => m_settling hN I.2.2.2.1 I.2.2.2.2.1 R M x y hx)
theorem s_without (hN : BigN N) (H : INV σ) (x : Int) : Ask (F_X11_without N x σ) (fun σ1 => F_X12_without N x σ1) := by
  obtain ⟨b, D, u, Ds, I⟩ := H
  have h := x_without hN I.2.2.2.1 I.2.2.2.2.1 I.1 x
  exact I.ask h.1 (fun σ1 _ M => m_without hN I.2.2.2.1 I.2.2.2.2.1 M x h.2)
theorem s_worth (hN : BigN N) (H : INV σ) (x y z : Int) : Ask (F_X11_worth N x y z σ) (fun σ1 => F_X12_worth N x y z σ1) := by
  obtain ⟨b, D, u, Ds, I⟩ := H
  have h := x_worth hN I.2.2.2.1 I.2.2.2.2.1 I.1 x y z
  exact I.ask h.1 (fun σ1 _ M => m_worth hN I.2.2.2.1 I.2.2.2.2.1 M x y z h.2)
theorem s_lack (hN : BigN N) (H : INV σ) (x y z : Int) : Ask (F_X11_lack N x y z σ) (fun σ1 => F_X12_lack N x y z σ1) := by
  obtain ⟨b, D, u, Ds, I⟩ := H
  have h := x_lack hN I.2.2.2.1 I.2.2.2.2.1 I.1 x y z
  exact I.ask h.1 (fun σ1 _ M => m_lack hN I.2.2.2.1 I.2.2.2.2.1 M x y z h.2)
theorem s_byCarry (hN : BigN N) (H : INV σ) (x : Int) : Ask (F_X11_byCarry N x σ) (fun σ1 => F_X12_byCarry N x σ1) := by
  obtain ⟨b, D, u, Ds, I⟩ := H
  have h := x_byCarry hN I.2.2.2.1 I.1 x
  exact I.ask h.1 (fun σ1 _ M => m_byCarry hN I.2.2.2.1 M x h.2)
theorem s_byGate (hN : BigN N) (H : INV σ) (x : Int) : Ask (F_X11_byGate N x σ) (fun σ1 => F_X12_byGate N x σ1) := by
  obtain ⟨b, D, u, Ds, I⟩ := H
  have h := x_byGate hN I.2.2.2.1 I.1 x
  exact I.ask h.1 (fun σ1 _ M => m_byGate hN I.2.2.2.1 M x h.2)
theorem s_gateFor (hN : BigN N) (H : INV σ) (x : Int) : Ask (F_X11_gateFor N x σ) (fun σ1 => F_X12_gateFor N x σ1) := by
  obtain ⟨b, D, u, Ds, I⟩ := H
  have h := x_gateFor hN I.2.2.2.1 I.1 x
  exact I.ask h.1 (fun σ1 _ M => m_gateFor hN I.2.2.2.1 M x h.2)
theorem s_ifFirst (hN : BigN N) (H : INV σ) (x y : Int) : Ask (F_X11_ifFirst N x y σ) (fun σ1 => F_X12_ifFirst N x y σ1) := by
  obtain ⟨b, D, u, Ds, I⟩ := H
  have h := x_ifFirst hN I.2.2.2.1 I.1 x y
  exact I.ask h.1 (fun σ1 _ M => m_ifFirst hN I.2.2.2.1 M x y h.2)
theorem s_chance (hN : BigN N) (H : INV σ) (x y z : Int) (hx : inR x) : Ask (F_X11_chance N x y z σ) (fun σ1 => F_X12_chance N x y z σ1) := by
  obtain ⟨b, D, u, Ds, I⟩ := H
  have h := x_chance hN I.2.2.2.1 I.2.2.2.2.1 I.1 x y z hx
  exact I.ask h.1 (fun σ1 _ M => m_chance hN I.2.2.2.1 I.2.2.2.2.1 M x y z hx h.2)
end STEP
