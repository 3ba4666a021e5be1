/-! THE LAW: its loop -/
section LOOP
variable {p : Program} {l : Launch} {e : Env} {R : Room} {s : State} {m : MethodId} {below : List Frame} {meth : Method} {c : Code} {cl sl : Nat} {g : Geo} {nL : Nat} {Q : State → Prop} {cc : ByteArray} {own : String} {pc : Nat} {lv : List (Nat × Value)} {st : List Value} {σ : Sto} {N b L : Nat} {xs : Nat → Int32} {args : Array Value}
theorem at_widen {cl' sl' : Nat} (h1 : cl ≤ cl') (h2 : sl ≤ sl') (kk : At p l e R s m args below meth c cl' sl' g nL Q pc lv st σ) : At p l e R s m args below meth c cl sl g nL Q pc lv st σ := fun H locs ls hP hS hl => W.widen h1 h2 (kk H locs ls hP hS hl)
theorem jand_63 {a : Int} (h : inR a) : jand a 63 = a % 64 := by
  have key : ∀ n : Nat, ∀ i, ((n : Nat).testBit i && (63 : Nat).testBit i) = (n % 64).testBit i := fun n i => by
    rw [show (63 : Nat) = 2 ^ 6 - 1 from rfl, show (64 : Nat) = 2 ^ 6 from rfl, Nat.testBit_two_pow_sub_one, Nat.testBit_mod_two_pow, Bool.and_comm]
  have hr := h.1
  have hr2 := h.2
  by_cases h0 : 0 ≤ a
  · obtain ⟨n, rfl⟩ : ∃ n : Nat, a = n := ⟨a.toNat, by omega⟩
    refine tb_ext (jand_R _ _) ⟨by omega, by omega⟩ (fun i hi => ?_)
    rw [tb_and, tb_nat n hi, show (63 : Int) = ((63 : Nat) : Int) from rfl, tb_nat _ hi, key n i, show (n : Int) % 64 = ((n % 64 : Nat) : Int) by omega, tb_nat _ hi]
  · obtain ⟨n, hn⟩ : ∃ n : Nat, a + 4294967296 = n := ⟨(a + 4294967296).toNat, by omega⟩
    refine tb_ext (jand_R _ _) ⟨by omega, by omega⟩ (fun i hi => ?_)
    rw [tb_and, ← tb_wrap (a := a) i, hn, tb_nat n hi, show (63 : Int) = ((63 : Nat) : Int) from rfl, tb_nat _ hi, key n i, show a % 64 = ((n % 64 : Nat) : Int) by omega, tb_nat _ hi]
theorem jand63 (x : Int32) : ∃ v : Nat, v < 64 ∧ jand x.toInt 63 = v := by
  have h := jand_63 (inR_t x)
  exact ⟨(jand x.toInt 63).toNat, by omega, by omega⟩
/-- a step's switch -/
theorem law_switch (hN : BigN N) (C : Cx p room_1 s m args c cl sl cL_law RL 7 g) (X : SX s g b L xs) {q : Nat} (hq : 6 * q + 5 < L) (hL : L ≤ 3072) (H : INV σ) (ok : OK σ) (M4 : At p l e room_1 s m args below meth c cl sl g 7 Q 400 (lvL g b q) [] σ) (kk : ∀ σ2, INV σ2 → OK σ2 → At p l e room_1 s m args below meth c cl sl g 7 Q 1917 (lvL g b q) [] σ2) (v : Nat) (hv : v < 64) : At p l e room_1 s m args below meth c cl sl g 7 Q 40 (lvL g b q) [vi (v : Int)] σ := by
  rcases Nat.lt_or_ge v 49 with h | h
  · match v, h with
    | 0, _ => exact at_tin (pc := 40) (tgt := 252) C dL_law_40 ⟨by decide, by decide⟩ (by decide) (by decide) rfl (by decide) (lc_0 hN C X hq hL H ok kk)
    | 1, _ => exact at_tin (pc := 40) (tgt := 325) C dL_law_40 ⟨by decide, by decide⟩ (by decide) (by decide) rfl (by decide) (lc_1 hN C X hq hL H ok kk)
    | 2, _ => exact at_tin (pc := 40) (tgt := 350) C dL_law_40 ⟨by decide, by decide⟩ (by decide) (by decide) rfl (by decide) (lc_2 hN C X hq hL H ok kk)
    | 3, _ => exact at_tin (pc := 40) (tgt := 375) C dL_law_40 ⟨by decide, by decide⟩ (by decide) (by decide) rfl (by decide) (lc_3 hN C X hq hL H ok kk)
    | 4, _ => exact at_tin (pc := 40) (tgt := 400) C dL_law_40 ⟨by decide, by decide⟩ (by decide) (by decide) rfl (by decide) M4
    | 5, _ => exact at_tin (pc := 40) (tgt := 468) C dL_law_40 ⟨by decide, by decide⟩ (by decide) (by decide) rfl (by decide) (lc_5 hN C X hq hL H ok kk)
    | 6, _ => exact at_tin (pc := 40) (tgt := 505) C dL_law_40 ⟨by decide, by decide⟩ (by decide) (by decide) rfl (by decide) (lc_6 hN C X hq hL H ok kk)
    | 7, _ => exact at_tin (pc := 40) (tgt := 554) C dL_law_40 ⟨by decide, by decide⟩ (by decide) (by decide) rfl (by decide) (lc_7 hN C X hq hL H ok kk)
    | 8, _ => exact at_tin (pc := 40) (tgt := 603) C dL_law_40 ⟨by decide, by decide⟩ (by decide) (by decide) rfl (by decide) (lc_8 hN C X hq hL H ok kk)
    | 9, _ => exact at_tin (pc := 40) (tgt := 652) C dL_law_40 ⟨by decide, by decide⟩ (by decide) (by decide) rfl (by decide) (lc_9 hN C X hq hL H ok kk)
    | 10, _ => exact at_tin (pc := 40) (tgt := 701) C dL_law_40 ⟨by decide, by decide⟩ (by decide) (by decide) rfl (by decide) (lc_10 hN C X hq hL H ok kk)
    | 11, _ => exact at_tin (pc := 40) (tgt := 738) C dL_law_40 ⟨by decide, by decide⟩ (by decide) (by decide) rfl (by decide) (lc_11 hN C X hq hL H ok kk)
    | 12, _ => exact at_tin (pc := 40) (tgt := 763) C dL_law_40 ⟨by decide, by decide⟩ (by decide) (by decide) rfl (by decide) (lc_12 hN C X hq hL H ok kk)
    | 13, _ => exact at_tin (pc := 40) (tgt := 800) C dL_law_40 ⟨by decide, by decide⟩ (by decide) (by decide) rfl (by decide) (lc_13 hN C X hq hL H ok kk)
    | 14, _ => exact at_tin (pc := 40) (tgt := 837) C dL_law_40 ⟨by decide, by decide⟩ (by decide) (by decide) rfl (by decide) (lc_14 hN C X hq hL H ok kk)
    | 15, _ => exact at_tin (pc := 40) (tgt := 874) C dL_law_40 ⟨by decide, by decide⟩ (by decide) (by decide) rfl (by decide) (lc_15 hN C X hq hL H ok kk)
    | 16, _ => exact at_tin (pc := 40) (tgt := 911) C dL_law_40 ⟨by decide, by decide⟩ (by decide) (by decide) rfl (by decide) (lc_16 hN C X hq hL H ok kk)
    | 17, _ => exact at_tin (pc := 40) (tgt := 960) C dL_law_40 ⟨by decide, by decide⟩ (by decide) (by decide) rfl (by decide) (lc_17 hN C X hq hL H ok kk)
    | 18, _ => exact at_tin (pc := 40) (tgt := 985) C dL_law_40 ⟨by decide, by decide⟩ (by decide) (by decide) rfl (by decide) (lc_18 hN C X hq hL H ok kk)
    | 19, _ => exact at_tin (pc := 40) (tgt := 1022) C dL_law_40 ⟨by decide, by decide⟩ (by decide) (by decide) rfl (by decide) (lc_19 hN C X hq hL H ok kk)
    | 20, _ => exact at_tin (pc := 40) (tgt := 1035) C dL_law_40 ⟨by decide, by decide⟩ (by decide) (by decide) rfl (by decide) (lc_20 hN C X hq hL H ok kk)
    | 21, _ => exact at_tin (pc := 40) (tgt := 1072) C dL_law_40 ⟨by decide, by decide⟩ (by decide) (by decide) rfl (by decide) (lc_21 hN C X hq hL H ok kk)
    | 22, _ => exact at_tin (pc := 40) (tgt := 1133) C dL_law_40 ⟨by decide, by decide⟩ (by decide) (by decide) rfl (by decide) (lc_22 hN C X hq hL H ok kk)
    | 23, _ => exact at_tin (pc := 40) (tgt := 1170) C dL_law_40 ⟨by decide, by decide⟩ (by decide) (by decide) rfl (by decide) (lc_23 hN C X hq hL H ok kk)
    | 24, _ => exact at_tin (pc := 40) (tgt := 1196) C dL_law_40 ⟨by decide, by decide⟩ (by decide) (by decide) rfl (by decide) (lc_24 hN C X hq hL H ok kk)
    | 25, _ => exact at_tin (pc := 40) (tgt := 1209) C dL_law_40 ⟨by decide, by decide⟩ (by decide) (by decide) rfl (by decide) (lc_25 hN C X hq hL H ok kk)
    | 26, _ => exact at_tin (pc := 40) (tgt := 1234) C dL_law_40 ⟨by decide, by decide⟩ (by decide) (by decide) rfl (by decide) (lc_26 hN C X hq hL H ok kk)
    | 27, _ => exact at_tin (pc := 40) (tgt := 1271) C dL_law_40 ⟨by decide, by decide⟩ (by decide) (by decide) rfl (by decide) (lc_27 hN C X hq hL H ok kk)
    | 28, _ => exact at_tin (pc := 40) (tgt := 1296) C dL_law_40 ⟨by decide, by decide⟩ (by decide) (by decide) rfl (by decide) (lc_28 hN C X hq hL H ok kk)
    | 29, _ => exact at_tin (pc := 40) (tgt := 1333) C dL_law_40 ⟨by decide, by decide⟩ (by decide) (by decide) rfl (by decide) (lc_29 hN C X hq hL H ok kk)
    | 30, _ => exact at_tin (pc := 40) (tgt := 1346) C dL_law_40 ⟨by decide, by decide⟩ (by decide) (by decide) rfl (by decide) (lc_30 hN C X hq hL H ok kk)
    | 31, _ => exact at_tin (pc := 40) (tgt := 1383) C dL_law_40 ⟨by decide, by decide⟩ (by decide) (by decide) rfl (by decide) (lc_31 hN C X hq hL H ok kk)
    | 32, _ => exact at_tin (pc := 40) (tgt := 1408) C dL_law_40 ⟨by decide, by decide⟩ (by decide) (by decide) rfl (by decide) (lc_32 hN C X hq hL H ok kk)
    | 33, _ => exact at_tin (pc := 40) (tgt := 1433) C dL_law_40 ⟨by decide, by decide⟩ (by decide) (by decide) rfl (by decide) (lc_33 hN C X hq hL H ok kk)
    | 34, _ => exact at_tin (pc := 40) (tgt := 1482) C dL_law_40 ⟨by decide, by decide⟩ (by decide) (by decide) rfl (by decide) (lc_34 hN C X hq hL H ok kk)
    | 35, _ => exact at_tin (pc := 40) (tgt := 1531) C dL_law_40 ⟨by decide, by decide⟩ (by decide) (by decide) rfl (by decide) (lc_35 hN C X hq hL H ok kk)
    | 36, _ => exact at_tin (pc := 40) (tgt := 1556) C dL_law_40 ⟨by decide, by decide⟩ (by decide) (by decide) rfl (by decide) (lc_36 hN C X hq hL H ok kk)
    | 37, _ => exact at_tin (pc := 40) (tgt := 1581) C dL_law_40 ⟨by decide, by decide⟩ (by decide) (by decide) rfl (by decide) (lc_37 hN C X hq hL H ok kk)
    | 38, _ => exact at_tin (pc := 40) (tgt := 1606) C dL_law_40 ⟨by decide, by decide⟩ (by decide) (by decide) rfl (by decide) (lc_38 hN C X hq hL H ok kk)
    | 39, _ => exact at_tin (pc := 40) (tgt := 1655) C dL_law_40 ⟨by decide, by decide⟩ (by decide) (by decide) rfl (by decide) (lc_39 hN C X hq hL H ok kk)
    | 40, _ => exact at_tin (pc := 40) (tgt := 1680) C dL_law_40 ⟨by decide, by decide⟩ (by decide) (by decide) rfl (by decide) (lc_40 hN C X hq hL H ok kk)
    | 41, _ => exact at_tin (pc := 40) (tgt := 1705) C dL_law_40 ⟨by decide, by decide⟩ (by decide) (by decide) rfl (by decide) (lc_41 hN C X hq hL H ok kk)
    | 42, _ => exact at_tin (pc := 40) (tgt := 1754) C dL_law_40 ⟨by decide, by decide⟩ (by decide) (by decide) rfl (by decide) (lc_42 hN C X hq hL H ok kk)
    | 43, _ => exact at_tin (pc := 40) (tgt := 1791) C dL_law_40 ⟨by decide, by decide⟩ (by decide) (by decide) rfl (by decide) (lc_43 hN C X hq hL H ok kk)
    | 44, _ => exact at_tin (pc := 40) (tgt := 1804) C dL_law_40 ⟨by decide, by decide⟩ (by decide) (by decide) rfl (by decide) (lc_44 hN C X hq hL H ok kk)
    | 45, _ => exact at_tin (pc := 40) (tgt := 1853) C dL_law_40 ⟨by decide, by decide⟩ (by decide) (by decide) rfl (by decide) (lc_45 hN C X hq hL H ok kk)
    | 46, _ => exact at_tin (pc := 40) (tgt := 1866) C dL_law_40 ⟨by decide, by decide⟩ (by decide) (by decide) rfl (by decide) (lc_46 hN C X hq hL H ok kk)
    | 47, _ => exact at_tin (pc := 40) (tgt := 1879) C dL_law_40 ⟨by decide, by decide⟩ (by decide) (by decide) rfl (by decide) (lc_47 hN C X hq hL H ok kk)
    | 48, _ => exact at_tin (pc := 40) (tgt := 1892) C dL_law_40 ⟨by decide, by decide⟩ (by decide) (by decide) rfl (by decide) (lc_48 hN C X hq hL H ok kk)
    | v + 49, h => exact absurd h (by omega)
  · exact at_tout (pc := 40) (tgt := 1917) C ⟨by omega, by omega⟩ dL_law_40 (Or.inr (by omega)) (by decide) (kk σ H ok)
theorem law_loop (hN : BigN N) (hd0 : s.drawn.sameBut s.drawn lw_cs) (hx : p.tables.exec = Jvm.exec) (hr : meth.sig.returnType = ret) (hlocks : meth.locks = false) (C : ∀ q, q ≤ 512 → Cx p room_1 s m #[Value.ref b] c (200 + q) (12000 + 6 * q) cL_law RL 7 g) (X : SX s g b L xs) (hL : L ≤ 3072) (hg : ∀ k, k < npo g → s.heap.size ≤ g.2.2 k)
    (M4 : ∀ (q : Nat) (σ : Sto), 6 * q + 5 < L → INV σ → OK σ → (∀ σ2, INV σ2 → OK σ2 → At p l e room_1 s m #[Value.ref b] below meth c (200 + (q + 1)) (12000 + 6 * (q + 1)) g 7 (lw_Z below #[Value.ref b] s) 1917 (lvL g b q) [] σ2) → At p l e room_1 s m #[Value.ref b] below meth c (200 + q) (12000 + 6 * q) g 7 (lw_Z below #[Value.ref b] s) 400 (lvL g b q) [] σ) :
    ∀ (d q : Nat) (σ : Sto), 512 - q ≤ d → q ≤ 512 → INV σ → OK σ → At p l e room_1 s m #[Value.ref b] below meth c (200 + q) (12000 + 6 * q) g 7 (lw_Z below #[Value.ref b] s) 23 (lvL g b q) [] σ := by
  intro d
  have head : ∀ (q : Nat) (σ : Sto), q ≤ 512 → INV σ → OK σ → (6 * q + 5 < L → ∀ σ2, INV σ2 → OK σ2 → At p l e room_1 s m #[Value.ref b] below meth c (200 + (q + 1)) (12000 + 6 * (q + 1)) g 7 (lw_Z below #[Value.ref b] s) 1917 (lvL g b q) [] σ2) → At p l e room_1 s m #[Value.ref b] below meth c (200 + q) (12000 + 6 * q) g 7 (lw_Z below #[Value.ref b] s) 23 (lvL g b q) [] σ := fun q σ hq H ok kk => by
    have Cq := C q hq
    refine at_iload (pc := 23) Cq 0 dL_law_23 rfl ?_
    refine at_aref (pc := 25) Cq 4 dL_law_25 rfl rfl ?_
    refine at_slen (pc := 26) Cq X dL_law_26 ?_
    refine at_bipush (pc := 27) Cq dL_law_27 (by decide) ?_
    refine at_isub (pc := 29) Cq dL_law_29 ?_
    rw [js_eq ⟨by omega, by omega⟩]
    refine at_icmp_gt (pc := 30) (tgt := 1923) Cq ⟨by omega, by omega⟩ ⟨by omega, by omega⟩ dL_law_30 (by decide) (fun _ => ?_) (fun z => ?_)
    · refine at_iconst (pc := 1923) Cq dL_law_1923 ?_
      intro H1 locs ls hP hS hl
      refine va_forget (fun q hq => ?_) ?_
      · rcases hS.2.2 q hq with ⟨k, hk, h⟩ | h
        · rw [h]; exact hg k hk
        · exact h
      refine W.widen (k := 1140) (n := 18663) (by omega) (by omega) ?_
      exact lw_ret (d0 := s.drawn) hd0 hx Cq.2.1 hr hlocks dL_law_1924
    · have hq5 : 6 * q + 5 < L := by omega
      refine at_aref (pc := 33) Cq 4 dL_law_33 rfl rfl ?_
      refine at_iload (pc := 34) Cq 0 dL_law_34 rfl ?_
      refine at_sld (pc := 36) (k := 6 * q) Cq X (by omega) hL dL_law_36 ?_
      refine at_bipush (pc := 37) Cq dL_law_37 (by decide) ?_
      refine at_iand (pc := 39) Cq dL_law_39 ?_
      obtain ⟨v, hv, ev⟩ := jand63 (xs (6 * q))
      rw [ev]
      exact law_switch hN Cq X hq5 hL H ok (M4 q σ hq5 H ok (kk hq5)) (fun σ2 H2 ok2 => at_widen (by omega) (by omega) (kk hq5 σ2 H2 ok2)) v hv
  induction d with
  | zero =>
    intro q σ hd hq H ok
    exact head q σ hq H ok (fun z => absurd z (by omega))
  | succ d ih =>
    intro q σ hd hq H ok
    refine head q σ hq H ok (fun z σ2 H2 ok2 => ?_)
    have Cq := C (q + 1) (by omega)
    refine at_iinc (pc := 1917) (lv' := lvL g b (q + 1)) Cq 0 dL_law_1917 rfl (by decide) ?_ ?_
    · rw [ja_eq ⟨by omega, by omega⟩, show ((6 * q : Nat) : Int) + 6 = ((6 * (q + 1) : Nat) : Int) by omega]
      rfl
    refine at_goto (pc := 1920) (tgt := 23) Cq dL_law_1920 (by decide) ?_
    exact ih (q + 1) σ2 (by omega) (by omega) H2 ok2
end LOOP
